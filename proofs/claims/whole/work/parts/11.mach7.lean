theorem dX9_minds_0 : jm_d cX9_minds 0 (.aload_n 0) 1 1 := ⟨by decide +kernel, rfl⟩
theorem dX9_minds_1 : jm_d cX9_minds 1 (.iconst 2) 1 2 := ⟨by decide +kernel, rfl⟩
theorem dX9_minds_2 : jm_d cX9_minds 2 (.iconst 1) 1 3 := ⟨by decide +kernel, rfl⟩
theorem dX9_minds_3 : jm_d cX9_minds 3 (.invokevirtual 253) 3 6 := ⟨by decide +kernel, rfl⟩
theorem dX9_minds_6 : jm_d cX9_minds 6 (.return_) 1 7 := ⟨by decide +kernel, rfl⟩
set_option maxHeartbeats 4000000 in
set_option maxRecDepth 100000 in
theorem kM_minds (E : jm_Ev) (hE : jm_dj E jm_LM) {M : jm_M}  {r : jm_M} (h : sM_minds M = some r) : jm_Ct E jm_LM yX9_minds cX9_minds 1 none 2 44 [.ref (jm_a E 0 0)] M none r := by
  refine jm_enter (lv := [some (.ref (jm_a E 0 0))]) hE (by decide) (Nat.le_of_ble_eq_true rfl) rfl ?_
  intro z w F hz
  have G : jm_G w 0 [some (.ref (jm_a E 0 0))] [] M (sM_minds M) (fun e => z none e) := by
    unfold sM_minds
    refine jm_aload_n (i := 0) F dX9_minds_0 rfl rfl ?_
    refine jm_iconst F dX9_minds_1 kc_2 ?_
    refine jm_iconst F dX9_minds_2 kc_1 ?_
    refine jm_callV (As := [.int 2, .int 1]) (st := []) (rv := fun _ => none) (mm := fun r => r) F dX9_minds_3 qX9_253 rfl lo_X9 rfl (fun r h => kM_passesAll E hE h) rfl (Nat.le_of_ble_eq_true rfl) ⟨Nat.le_of_ble_eq_true rfl, Nat.le_of_ble_eq_true rfl⟩ (fun r1 => ?_)
    exact jm_vret F dX9_minds_6 (fun h => h)
  exact G r h hz
theorem dX9_forgets_0 : jm_d cX9_forgets 0 (.aload_n 0) 1 1 := ⟨by decide +kernel, rfl⟩
theorem dX9_forgets_1 : jm_d cX9_forgets 1 (.iconst 2) 1 2 := ⟨by decide +kernel, rfl⟩
theorem dX9_forgets_2 : jm_d cX9_forgets 2 (.iconst 0) 1 3 := ⟨by decide +kernel, rfl⟩
theorem dX9_forgets_3 : jm_d cX9_forgets 3 (.invokevirtual 253) 3 6 := ⟨by decide +kernel, rfl⟩
theorem dX9_forgets_6 : jm_d cX9_forgets 6 (.aload_n 0) 1 7 := ⟨by decide +kernel, rfl⟩
theorem dX9_forgets_7 : jm_d cX9_forgets 7 (.iconst 0) 1 8 := ⟨by decide +kernel, rfl⟩
theorem dX9_forgets_8 : jm_d cX9_forgets 8 (.putfield 152) 3 11 := ⟨by decide +kernel, rfl⟩
theorem dX9_forgets_11 : jm_d cX9_forgets 11 (.return_) 1 12 := ⟨by decide +kernel, rfl⟩
set_option maxHeartbeats 4000000 in
set_option maxRecDepth 100000 in
theorem kM_forgets (E : jm_Ev) (hE : jm_dj E jm_LM) {M : jm_M}  {r : jm_M} (h : sM_forgets M = some r) : jm_Ct E jm_LM yX9_forgets cX9_forgets 1 none 2 44 [.ref (jm_a E 0 0)] M none r := by
  refine jm_enter (lv := [some (.ref (jm_a E 0 0))]) hE (by decide) (Nat.le_of_ble_eq_true rfl) rfl ?_
  intro z w F hz
  have G : jm_G w 0 [some (.ref (jm_a E 0 0))] [] M (sM_forgets M) (fun e => z none e) := by
    unfold sM_forgets
    refine jm_aload_n (i := 0) F dX9_forgets_0 rfl rfl ?_
    refine jm_iconst F dX9_forgets_1 kc_2 ?_
    refine jm_iconst F dX9_forgets_2 kc_0 ?_
    refine jm_callV (As := [.int 2, .int 0]) (st := []) (rv := fun _ => none) (mm := fun r => r) F dX9_forgets_3 qX9_253 rfl lo_X9 rfl (fun r h => kM_passesAll E hE h) rfl (Nat.le_of_ble_eq_true rfl) ⟨Nat.le_of_ble_eq_true rfl, Nat.le_of_ble_eq_true rfl⟩ (fun r1 => ?_)
    refine jm_aload_n (i := 0) F dX9_forgets_6 rfl rfl ?_
    refine jm_iconst F dX9_forgets_7 kc_0 ?_
    refine jm_putZ F dX9_forgets_8 fp_X9_152 lo_X9 rfl (fun M2 => ?_)
    exact jm_vret F dX9_forgets_11 (fun h => h)
  exact G r h hz
theorem dX9_remembers_0 : jm_d cX9_remembers 0 (.aload_n 0) 1 1 := ⟨by decide +kernel, rfl⟩
theorem dX9_remembers_1 : jm_d cX9_remembers 1 (.getfield 260) 3 4 := ⟨by decide +kernel, rfl⟩
theorem dX9_remembers_4 : jm_d cX9_remembers 4 (.bipush 8) 2 6 := ⟨by decide +kernel, rfl⟩
theorem dX9_remembers_6 : jm_b cX9_remembers 6 (.if_icmp .ne) 9 25 := ⟨19, by decide +kernel, rfl, by decide⟩
theorem dX9_remembers_9 : jm_d cX9_remembers 9 (.aload_n 0) 1 10 := ⟨by decide +kernel, rfl⟩
theorem dX9_remembers_10 : jm_d cX9_remembers 10 (.aload_n 0) 1 11 := ⟨by decide +kernel, rfl⟩
theorem dX9_remembers_11 : jm_d cX9_remembers 11 (.getfield 276) 3 14 := ⟨by decide +kernel, rfl⟩
theorem dX9_remembers_14 : jm_d cX9_remembers 14 (.iconst 1) 1 15 := ⟨by decide +kernel, rfl⟩
theorem dX9_remembers_15 : jm_d cX9_remembers 15 (.iadd) 1 16 := ⟨by decide +kernel, rfl⟩
theorem dX9_remembers_16 : jm_d cX9_remembers 16 (.bipush 8) 2 18 := ⟨by decide +kernel, rfl⟩
theorem dX9_remembers_18 : jm_d cX9_remembers 18 (.irem) 1 19 := ⟨by decide +kernel, rfl⟩
theorem dX9_remembers_19 : jm_d cX9_remembers 19 (.putfield 276) 3 22 := ⟨by decide +kernel, rfl⟩
theorem dX9_remembers_22 : jm_b cX9_remembers 22 .goto 25 35 := ⟨13, by decide +kernel, rfl, by decide⟩
theorem dX9_remembers_25 : jm_d cX9_remembers 25 (.aload_n 0) 1 26 := ⟨by decide +kernel, rfl⟩
theorem dX9_remembers_26 : jm_d cX9_remembers 26 (.dup) 1 27 := ⟨by decide +kernel, rfl⟩
theorem dX9_remembers_27 : jm_d cX9_remembers 27 (.getfield 260) 3 30 := ⟨by decide +kernel, rfl⟩
theorem dX9_remembers_30 : jm_d cX9_remembers 30 (.iconst 1) 1 31 := ⟨by decide +kernel, rfl⟩
theorem dX9_remembers_31 : jm_d cX9_remembers 31 (.iadd) 1 32 := ⟨by decide +kernel, rfl⟩
theorem dX9_remembers_32 : jm_d cX9_remembers 32 (.putfield 260) 3 35 := ⟨by decide +kernel, rfl⟩
theorem dX9_remembers_35 : jm_d cX9_remembers 35 (.aload_n 0) 1 36 := ⟨by decide +kernel, rfl⟩
theorem dX9_remembers_36 : jm_d cX9_remembers 36 (.iconst 3) 1 37 := ⟨by decide +kernel, rfl⟩
theorem dX9_remembers_37 : jm_d cX9_remembers 37 (.aload_n 0) 1 38 := ⟨by decide +kernel, rfl⟩
theorem dX9_remembers_38 : jm_d cX9_remembers 38 (.getfield 276) 3 41 := ⟨by decide +kernel, rfl⟩
theorem dX9_remembers_41 : jm_d cX9_remembers 41 (.aload_n 0) 1 42 := ⟨by decide +kernel, rfl⟩
theorem dX9_remembers_42 : jm_d cX9_remembers 42 (.getfield 260) 3 45 := ⟨by decide +kernel, rfl⟩
theorem dX9_remembers_45 : jm_d cX9_remembers 45 (.iadd) 1 46 := ⟨by decide +kernel, rfl⟩
theorem dX9_remembers_46 : jm_d cX9_remembers 46 (.iconst 1) 1 47 := ⟨by decide +kernel, rfl⟩
theorem dX9_remembers_47 : jm_d cX9_remembers 47 (.isub) 1 48 := ⟨by decide +kernel, rfl⟩
theorem dX9_remembers_48 : jm_d cX9_remembers 48 (.bipush 8) 2 50 := ⟨by decide +kernel, rfl⟩
theorem dX9_remembers_50 : jm_d cX9_remembers 50 (.irem) 1 51 := ⟨by decide +kernel, rfl⟩
theorem dX9_remembers_51 : jm_d cX9_remembers 51 (.iadd) 1 52 := ⟨by decide +kernel, rfl⟩
theorem dX9_remembers_52 : jm_d cX9_remembers 52 (.iconst 1) 1 53 := ⟨by decide +kernel, rfl⟩
theorem dX9_remembers_53 : jm_d cX9_remembers 53 (.invokevirtual 253) 3 56 := ⟨by decide +kernel, rfl⟩
theorem dX9_remembers_56 : jm_d cX9_remembers 56 (.return_) 1 57 := ⟨by decide +kernel, rfl⟩
set_option maxHeartbeats 4000000 in
set_option maxRecDepth 100000 in
theorem kM_remembers (E : jm_Ev) (hE : jm_dj E jm_LM) {M : jm_M}  {r : jm_M} (h : sM_remembers M = some r) : jm_Ct E jm_LM yX9_remembers cX9_remembers 1 none 2 44 [.ref (jm_a E 0 0)] M none r := by
  refine jm_enter (lv := [some (.ref (jm_a E 0 0))]) hE (by decide) (Nat.le_of_ble_eq_true rfl) rfl ?_
  intro z w F hz
  have G : jm_G w 0 [some (.ref (jm_a E 0 0))] [] M (sM_remembers M) (fun e => z none e) := by
    unfold sM_remembers
    refine jm_aload_n (i := 0) F dX9_remembers_0 rfl rfl ?_
    refine jm_getI F dX9_remembers_1 fl_X9_260 lo_X9 rfl ?_
    refine jm_bipush F dX9_remembers_4 kb_8 ?_
    refine jm_bind (pcJ := 35) (lvJ := fun e1 => [some (.ref (jm_a E 0 0))]) (stJ := fun e1 => []) (MJ := fun e1 => e1) ?_ (fun e1 => ?_)
    · refine jm_icmp_ne F dX9_remembers_6 (fun c2 => ?_) (fun c2 => ?_)
      · refine jm_aload_n (i := 0) F dX9_remembers_9 rfl rfl ?_
        refine jm_aload_n (i := 0) F dX9_remembers_10 rfl rfl ?_
        refine jm_getI F dX9_remembers_11 fl_X9_276 lo_X9 rfl ?_
        refine jm_iconst F dX9_remembers_14 kc_1 ?_
        refine jm_iadd F dX9_remembers_15 ?_
        refine jm_bipush F dX9_remembers_16 kb_8 ?_
        refine jm_irem F dX9_remembers_18 (fun v3 => ?_)
        refine jm_putI F dX9_remembers_19 fp_X9_276 lo_X9 rfl (fun M4 => ?_)
        refine jm_goto F dX9_remembers_22 ?_
        exact jm_weakD F (lv' := [some (.ref (jm_a E 0 0))]) ⟨rfl, trivial⟩ (fun h => h)
      · refine jm_aload_n (i := 0) F dX9_remembers_25 rfl rfl ?_
        refine jm_dup F dX9_remembers_26 rfl ?_
        refine jm_getI F dX9_remembers_27 fl_X9_260 lo_X9 rfl ?_
        refine jm_iconst F dX9_remembers_30 kc_1 ?_
        refine jm_iadd F dX9_remembers_31 ?_
        refine jm_putI F dX9_remembers_32 fp_X9_260 lo_X9 rfl (fun M5 => ?_)
        exact jm_weakD F (lv' := [some (.ref (jm_a E 0 0))]) ⟨rfl, trivial⟩ (fun h => h)
    · refine jm_aload_n (i := 0) F dX9_remembers_35 rfl rfl ?_
      refine jm_iconst F dX9_remembers_36 kc_3 ?_
      refine jm_aload_n (i := 0) F dX9_remembers_37 rfl rfl ?_
      refine jm_getI F dX9_remembers_38 fl_X9_276 lo_X9 rfl ?_
      refine jm_aload_n (i := 0) F dX9_remembers_41 rfl rfl ?_
      refine jm_getI F dX9_remembers_42 fl_X9_260 lo_X9 rfl ?_
      refine jm_iadd F dX9_remembers_45 ?_
      refine jm_iconst F dX9_remembers_46 kc_1 ?_
      refine jm_isub F dX9_remembers_47 ?_
      refine jm_bipush F dX9_remembers_48 kb_8 ?_
      refine jm_irem F dX9_remembers_50 (fun v6 => ?_)
      refine jm_iadd F dX9_remembers_51 ?_
      refine jm_iconst F dX9_remembers_52 kc_1 ?_
      refine jm_callV (As := [.int (3 + v6), .int 1]) (st := []) (rv := fun _ => none) (mm := fun r => r) F dX9_remembers_53 qX9_253 rfl lo_X9 rfl (fun r h => kM_passesAll E hE h) rfl (Nat.le_of_ble_eq_true rfl) ⟨Nat.le_of_ble_eq_true rfl, Nat.le_of_ble_eq_true rfl⟩ (fun r7 => ?_)
      exact jm_vret F dX9_remembers_56 (fun h => h)
  exact G r h hz
theorem dX9_back_0 : jm_d cX9_back 0 (.aload_n 0) 1 1 := ⟨by decide +kernel, rfl⟩
theorem dX9_back_1 : jm_d cX9_back 1 (.getfield 260) 3 4 := ⟨by decide +kernel, rfl⟩
theorem dX9_back_4 : jm_b cX9_back 4 (.ifCond .ne) 7 14 := ⟨10, by decide +kernel, rfl, by decide⟩
theorem dX9_back_7 : jm_d cX9_back 7 (.aload_n 0) 1 8 := ⟨by decide +kernel, rfl⟩
theorem dX9_back_8 : jm_d cX9_back 8 (.bipush (-3)) 2 10 := ⟨by decide +kernel, rfl⟩
theorem dX9_back_10 : jm_d cX9_back 10 (.invokevirtual 172) 3 13 := ⟨by decide +kernel, rfl⟩
theorem dX9_back_13 : jm_d cX9_back 13 (.ireturn) 1 14 := ⟨by decide +kernel, rfl⟩
theorem dX9_back_14 : jm_d cX9_back 14 (.aload_n 0) 1 15 := ⟨by decide +kernel, rfl⟩
theorem dX9_back_15 : jm_d cX9_back 15 (.iconst 3) 1 16 := ⟨by decide +kernel, rfl⟩
theorem dX9_back_16 : jm_d cX9_back 16 (.aload_n 0) 1 17 := ⟨by decide +kernel, rfl⟩
theorem dX9_back_17 : jm_d cX9_back 17 (.getfield 276) 3 20 := ⟨by decide +kernel, rfl⟩
theorem dX9_back_20 : jm_d cX9_back 20 (.aload_n 0) 1 21 := ⟨by decide +kernel, rfl⟩
theorem dX9_back_21 : jm_d cX9_back 21 (.getfield 260) 3 24 := ⟨by decide +kernel, rfl⟩
theorem dX9_back_24 : jm_d cX9_back 24 (.iadd) 1 25 := ⟨by decide +kernel, rfl⟩
theorem dX9_back_25 : jm_d cX9_back 25 (.iconst 1) 1 26 := ⟨by decide +kernel, rfl⟩
theorem dX9_back_26 : jm_d cX9_back 26 (.isub) 1 27 := ⟨by decide +kernel, rfl⟩
theorem dX9_back_27 : jm_d cX9_back 27 (.bipush 8) 2 29 := ⟨by decide +kernel, rfl⟩
theorem dX9_back_29 : jm_d cX9_back 29 (.irem) 1 30 := ⟨by decide +kernel, rfl⟩
theorem dX9_back_30 : jm_d cX9_back 30 (.iadd) 1 31 := ⟨by decide +kernel, rfl⟩
theorem dX9_back_31 : jm_d cX9_back 31 (.iconst 0) 1 32 := ⟨by decide +kernel, rfl⟩
theorem dX9_back_32 : jm_d cX9_back 32 (.invokevirtual 253) 3 35 := ⟨by decide +kernel, rfl⟩
theorem dX9_back_35 : jm_d cX9_back 35 (.aload_n 0) 1 36 := ⟨by decide +kernel, rfl⟩
theorem dX9_back_36 : jm_d cX9_back 36 (.dup) 1 37 := ⟨by decide +kernel, rfl⟩
theorem dX9_back_37 : jm_d cX9_back 37 (.getfield 260) 3 40 := ⟨by decide +kernel, rfl⟩
theorem dX9_back_40 : jm_d cX9_back 40 (.iconst 1) 1 41 := ⟨by decide +kernel, rfl⟩
theorem dX9_back_41 : jm_d cX9_back 41 (.isub) 1 42 := ⟨by decide +kernel, rfl⟩
theorem dX9_back_42 : jm_d cX9_back 42 (.putfield 260) 3 45 := ⟨by decide +kernel, rfl⟩
theorem dX9_back_45 : jm_d cX9_back 45 (.aload_n 0) 1 46 := ⟨by decide +kernel, rfl⟩
theorem dX9_back_46 : jm_d cX9_back 46 (.getfield 260) 3 49 := ⟨by decide +kernel, rfl⟩
theorem dX9_back_49 : jm_d cX9_back 49 (.ireturn) 1 50 := ⟨by decide +kernel, rfl⟩
set_option maxHeartbeats 4000000 in
set_option maxRecDepth 100000 in
theorem kM_back (E : jm_Ev) (hE : jm_dj E jm_LM) {M : jm_M}  {r : Int32 × jm_M} (h : sM_back M = some r) : jm_Ct E jm_LM yX9_back cX9_back 1 (some .int) 2 44 [.ref (jm_a E 0 0)] M (some (.int r.1)) r.2 := by
  refine jm_enter (lv := [some (.ref (jm_a E 0 0))]) hE (by decide) (Nat.le_of_ble_eq_true rfl) rfl ?_
  intro z w F hz
  have G : jm_G w 0 [some (.ref (jm_a E 0 0))] [] M (sM_back M) (fun e => z (some (.int e.1)) e.2) := by
    unfold sM_back
    refine jm_aload_n (i := 0) F dX9_back_0 rfl rfl ?_
    refine jm_getI F dX9_back_1 fl_X9_260 lo_X9 rfl ?_
    refine jm_if_ne F dX9_back_4 (fun c1 => ?_) (fun c1 => ?_)
    · refine jm_aload_n (i := 0) F dX9_back_7 rfl rfl ?_
      refine jm_bipush F dX9_back_8 kb_m3 ?_
      refine jm_callV (As := [.int (-3)]) (st := []) (rv := fun r => some (.int r.1)) (mm := fun r => r.2) F dX9_back_10 qX9_172 rfl lo_X9 rfl (fun r h => kM_no E hE h) rfl (Nat.le_of_ble_eq_true rfl) ⟨Nat.le_of_ble_eq_true rfl, Nat.le_of_ble_eq_true rfl⟩ (fun r2 => ?_)
      exact jm_iret F dX9_back_13 (fun h => h)
    · refine jm_aload_n (i := 0) F dX9_back_14 rfl rfl ?_
      refine jm_iconst F dX9_back_15 kc_3 ?_
      refine jm_aload_n (i := 0) F dX9_back_16 rfl rfl ?_
      refine jm_getI F dX9_back_17 fl_X9_276 lo_X9 rfl ?_
      refine jm_aload_n (i := 0) F dX9_back_20 rfl rfl ?_
      refine jm_getI F dX9_back_21 fl_X9_260 lo_X9 rfl ?_
      refine jm_iadd F dX9_back_24 ?_
      refine jm_iconst F dX9_back_25 kc_1 ?_
      refine jm_isub F dX9_back_26 ?_
      refine jm_bipush F dX9_back_27 kb_8 ?_
      refine jm_irem F dX9_back_29 (fun v3 => ?_)
      refine jm_iadd F dX9_back_30 ?_
      refine jm_iconst F dX9_back_31 kc_0 ?_
      refine jm_callV (As := [.int (3 + v3), .int 0]) (st := []) (rv := fun _ => none) (mm := fun r => r) F dX9_back_32 qX9_253 rfl lo_X9 rfl (fun r h => kM_passesAll E hE h) rfl (Nat.le_of_ble_eq_true rfl) ⟨Nat.le_of_ble_eq_true rfl, Nat.le_of_ble_eq_true rfl⟩ (fun r4 => ?_)
      refine jm_aload_n (i := 0) F dX9_back_35 rfl rfl ?_
      refine jm_dup F dX9_back_36 rfl ?_
      refine jm_getI F dX9_back_37 fl_X9_260 lo_X9 rfl ?_
      refine jm_iconst F dX9_back_40 kc_1 ?_
      refine jm_isub F dX9_back_41 ?_
      refine jm_putI F dX9_back_42 fp_X9_260 lo_X9 rfl (fun M5 => ?_)
      refine jm_aload_n (i := 0) F dX9_back_45 rfl rfl ?_
      refine jm_getI F dX9_back_46 fl_X9_260 lo_X9 rfl ?_
      exact jm_iret F dX9_back_49 (fun h => h)
  exact G r h hz
theorem dX9_image_0 : jm_d cX9_image 0 (.aload_n 0) 1 1 := ⟨by decide +kernel, rfl⟩
theorem dX9_image_1 : jm_d cX9_image 1 (.iconst 1) 1 2 := ⟨by decide +kernel, rfl⟩
theorem dX9_image_2 : jm_d cX9_image 2 (.putfield 279) 3 5 := ⟨by decide +kernel, rfl⟩
theorem dX9_image_5 : jm_d cX9_image 5 (.aload_n 0) 1 6 := ⟨by decide +kernel, rfl⟩
theorem dX9_image_6 : jm_d cX9_image 6 (.iconst 0) 1 7 := ⟨by decide +kernel, rfl⟩
theorem dX9_image_7 : jm_d cX9_image 7 (.iconst 1) 1 8 := ⟨by decide +kernel, rfl⟩
theorem dX9_image_8 : jm_d cX9_image 8 (.invokevirtual 253) 3 11 := ⟨by decide +kernel, rfl⟩
theorem dX9_image_11 : jm_d cX9_image 11 (.aload_n 0) 1 12 := ⟨by decide +kernel, rfl⟩
theorem dX9_image_12 : jm_d cX9_image 12 (.getfield 116) 3 15 := ⟨by decide +kernel, rfl⟩
theorem dX9_image_15 : jm_d cX9_image 15 (.ireturn) 1 16 := ⟨by decide +kernel, rfl⟩
set_option maxHeartbeats 4000000 in
set_option maxRecDepth 100000 in
theorem kM_image (E : jm_Ev) (hE : jm_dj E jm_LM) {M : jm_M}  {r : Int32 × jm_M} (h : sM_image M = some r) : jm_Ct E jm_LM yX9_image cX9_image 1 (some .int) 2 44 [.ref (jm_a E 0 0)] M (some (.int r.1)) r.2 := by
  refine jm_enter (lv := [some (.ref (jm_a E 0 0))]) hE (by decide) (Nat.le_of_ble_eq_true rfl) rfl ?_
  intro z w F hz
  have G : jm_G w 0 [some (.ref (jm_a E 0 0))] [] M (sM_image M) (fun e => z (some (.int e.1)) e.2) := by
    unfold sM_image
    refine jm_aload_n (i := 0) F dX9_image_0 rfl rfl ?_
    refine jm_iconst F dX9_image_1 kc_1 ?_
    refine jm_putZ F dX9_image_2 fp_X9_279 lo_X9 rfl (fun M1 => ?_)
    refine jm_aload_n (i := 0) F dX9_image_5 rfl rfl ?_
    refine jm_iconst F dX9_image_6 kc_0 ?_
    refine jm_iconst F dX9_image_7 kc_1 ?_
    refine jm_callV (As := [.int 0, .int 1]) (st := []) (rv := fun _ => none) (mm := fun r => r) F dX9_image_8 qX9_253 rfl lo_X9 rfl (fun r h => kM_passesAll E hE h) rfl (Nat.le_of_ble_eq_true rfl) ⟨Nat.le_of_ble_eq_true rfl, Nat.le_of_ble_eq_true rfl⟩ (fun r2 => ?_)
    refine jm_aload_n (i := 0) F dX9_image_11 rfl rfl ?_
    refine jm_getI F dX9_image_12 fl_X9_116 lo_X9 rfl ?_
    exact jm_iret F dX9_image_15 (fun h => h)
  exact G r h hz
theorem dX9_restore_0 : jm_d cX9_restore 0 (.aload_n 0) 1 1 := ⟨by decide +kernel, rfl⟩
theorem dX9_restore_1 : jm_d cX9_restore 1 (.getfield 279) 3 4 := ⟨by decide +kernel, rfl⟩
theorem dX9_restore_4 : jm_b cX9_restore 4 (.ifCond .ne) 7 14 := ⟨10, by decide +kernel, rfl, by decide⟩
theorem dX9_restore_7 : jm_d cX9_restore 7 (.aload_n 0) 1 8 := ⟨by decide +kernel, rfl⟩
theorem dX9_restore_8 : jm_d cX9_restore 8 (.bipush (-3)) 2 10 := ⟨by decide +kernel, rfl⟩
theorem dX9_restore_10 : jm_d cX9_restore 10 (.invokevirtual 172) 3 13 := ⟨by decide +kernel, rfl⟩
theorem dX9_restore_13 : jm_d cX9_restore 13 (.ireturn) 1 14 := ⟨by decide +kernel, rfl⟩
theorem dX9_restore_14 : jm_d cX9_restore 14 (.aload_n 0) 1 15 := ⟨by decide +kernel, rfl⟩
theorem dX9_restore_15 : jm_d cX9_restore 15 (.iconst 0) 1 16 := ⟨by decide +kernel, rfl⟩
theorem dX9_restore_16 : jm_d cX9_restore 16 (.iconst 0) 1 17 := ⟨by decide +kernel, rfl⟩
theorem dX9_restore_17 : jm_d cX9_restore 17 (.invokevirtual 253) 3 20 := ⟨by decide +kernel, rfl⟩
theorem dX9_restore_20 : jm_d cX9_restore 20 (.aload_n 0) 1 21 := ⟨by decide +kernel, rfl⟩
theorem dX9_restore_21 : jm_d cX9_restore 21 (.iconst 0) 1 22 := ⟨by decide +kernel, rfl⟩
theorem dX9_restore_22 : jm_d cX9_restore 22 (.putfield 260) 3 25 := ⟨by decide +kernel, rfl⟩
theorem dX9_restore_25 : jm_d cX9_restore 25 (.aload_n 0) 1 26 := ⟨by decide +kernel, rfl⟩
theorem dX9_restore_26 : jm_d cX9_restore 26 (.getfield 116) 3 29 := ⟨by decide +kernel, rfl⟩
theorem dX9_restore_29 : jm_d cX9_restore 29 (.ireturn) 1 30 := ⟨by decide +kernel, rfl⟩
set_option maxHeartbeats 4000000 in
set_option maxRecDepth 100000 in
theorem kM_restore (E : jm_Ev) (hE : jm_dj E jm_LM) {M : jm_M}  {r : Int32 × jm_M} (h : sM_restore M = some r) : jm_Ct E jm_LM yX9_restore cX9_restore 1 (some .int) 2 44 [.ref (jm_a E 0 0)] M (some (.int r.1)) r.2 := by
  refine jm_enter (lv := [some (.ref (jm_a E 0 0))]) hE (by decide) (Nat.le_of_ble_eq_true rfl) rfl ?_
  intro z w F hz
  have G : jm_G w 0 [some (.ref (jm_a E 0 0))] [] M (sM_restore M) (fun e => z (some (.int e.1)) e.2) := by
    unfold sM_restore
    refine jm_aload_n (i := 0) F dX9_restore_0 rfl rfl ?_
    refine jm_getI F dX9_restore_1 fl_X9_279 lo_X9 rfl ?_
    refine jm_if_ne F dX9_restore_4 (fun c1 => ?_) (fun c1 => ?_)
    · refine jm_aload_n (i := 0) F dX9_restore_7 rfl rfl ?_
      refine jm_bipush F dX9_restore_8 kb_m3 ?_
      refine jm_callV (As := [.int (-3)]) (st := []) (rv := fun r => some (.int r.1)) (mm := fun r => r.2) F dX9_restore_10 qX9_172 rfl lo_X9 rfl (fun r h => kM_no E hE h) rfl (Nat.le_of_ble_eq_true rfl) ⟨Nat.le_of_ble_eq_true rfl, Nat.le_of_ble_eq_true rfl⟩ (fun r2 => ?_)
      exact jm_iret F dX9_restore_13 (fun h => h)
    · refine jm_aload_n (i := 0) F dX9_restore_14 rfl rfl ?_
      refine jm_iconst F dX9_restore_15 kc_0 ?_
      refine jm_iconst F dX9_restore_16 kc_0 ?_
      refine jm_callV (As := [.int 0, .int 0]) (st := []) (rv := fun _ => none) (mm := fun r => r) F dX9_restore_17 qX9_253 rfl lo_X9 rfl (fun r h => kM_passesAll E hE h) rfl (Nat.le_of_ble_eq_true rfl) ⟨Nat.le_of_ble_eq_true rfl, Nat.le_of_ble_eq_true rfl⟩ (fun r3 => ?_)
      refine jm_aload_n (i := 0) F dX9_restore_20 rfl rfl ?_
      refine jm_iconst F dX9_restore_21 kc_0 ?_
      refine jm_putI F dX9_restore_22 fp_X9_260 lo_X9 rfl (fun M4 => ?_)
      refine jm_aload_n (i := 0) F dX9_restore_25 rfl rfl ?_
      refine jm_getI F dX9_restore_26 fl_X9_116 lo_X9 rfl ?_
      exact jm_iret F dX9_restore_29 (fun h => h)
  exact G r h hz
theorem dX9_manyRead_0 : jm_d cX9_manyRead 0 (.iconst 0) 1 1 := ⟨by decide +kernel, rfl⟩
theorem dX9_manyRead_1 : jm_d cX9_manyRead 1 (.istore_n 2) 1 2 := ⟨by decide +kernel, rfl⟩
theorem dX9_manyRead_2 : jm_d cX9_manyRead 2 (.iconst 0) 1 3 := ⟨by decide +kernel, rfl⟩
theorem dX9_manyRead_3 : jm_d cX9_manyRead 3 (.istore_n 3) 1 4 := ⟨by decide +kernel, rfl⟩
theorem dX9_manyRead_4 : jm_d cX9_manyRead 4 (.iload_n 3) 1 5 := ⟨by decide +kernel, rfl⟩
theorem dX9_manyRead_5 : jm_d cX9_manyRead 5 (.aload_n 0) 1 6 := ⟨by decide +kernel, rfl⟩
theorem dX9_manyRead_6 : jm_d cX9_manyRead 6 (.getfield 106) 3 9 := ⟨by decide +kernel, rfl⟩
theorem dX9_manyRead_9 : jm_b cX9_manyRead 9 (.if_icmp .ge) 12 31 := ⟨22, by decide +kernel, rfl, by decide⟩
theorem dX9_manyRead_12 : jm_d cX9_manyRead 12 (.iload_n 2) 1 13 := ⟨by decide +kernel, rfl⟩
theorem dX9_manyRead_13 : jm_d cX9_manyRead 13 (.aload_n 0) 1 14 := ⟨by decide +kernel, rfl⟩
theorem dX9_manyRead_14 : jm_d cX9_manyRead 14 (.getfield 34) 3 17 := ⟨by decide +kernel, rfl⟩
theorem dX9_manyRead_17 : jm_d cX9_manyRead 17 (.iload_n 3) 1 18 := ⟨by decide +kernel, rfl⟩
theorem dX9_manyRead_18 : jm_d cX9_manyRead 18 (.iaload) 1 19 := ⟨by decide +kernel, rfl⟩
theorem dX9_manyRead_19 : jm_d cX9_manyRead 19 (.iload_n 1) 1 20 := ⟨by decide +kernel, rfl⟩
theorem dX9_manyRead_20 : jm_d cX9_manyRead 20 (.ishr) 1 21 := ⟨by decide +kernel, rfl⟩
theorem dX9_manyRead_21 : jm_d cX9_manyRead 21 (.iconst 1) 1 22 := ⟨by decide +kernel, rfl⟩
theorem dX9_manyRead_22 : jm_d cX9_manyRead 22 (.iand) 1 23 := ⟨by decide +kernel, rfl⟩
theorem dX9_manyRead_23 : jm_d cX9_manyRead 23 (.iadd) 1 24 := ⟨by decide +kernel, rfl⟩
theorem dX9_manyRead_24 : jm_d cX9_manyRead 24 (.istore_n 2) 1 25 := ⟨by decide +kernel, rfl⟩
theorem dX9_manyRead_25 : jm_d cX9_manyRead 25 (.iinc 3 1) 3 28 := ⟨by decide +kernel, rfl⟩
theorem dX9_manyRead_28 : jm_b cX9_manyRead 28 .goto 31 4 := ⟨(-24), by decide +kernel, rfl, by decide⟩
theorem dX9_manyRead_31 : jm_d cX9_manyRead 31 (.iload_n 2) 1 32 := ⟨by decide +kernel, rfl⟩
theorem dX9_manyRead_32 : jm_d cX9_manyRead 32 (.ireturn) 1 33 := ⟨by decide +kernel, rfl⟩
set_option maxHeartbeats 4000000 in
set_option maxRecDepth 100000 in
theorem kM_manyRead (E : jm_Ev) (hE : jm_dj E jm_LM) {M : jm_M} {p1 : Int32}  {r : Int32} (h : sM_manyRead M p1 = some r) : jm_Ct E jm_LM yX9_manyRead cX9_manyRead 4 (some .int) 0 0 [.ref (jm_a E 0 0), .int p1] M (some (.int r)) M := by
  refine jm_enter (lv := [some (.ref (jm_a E 0 0)), some (.int p1), none, none]) hE (by decide) (Nat.le_of_ble_eq_true rfl) rfl ?_
  intro z w F hz
  have G : jm_G w 0 [some (.ref (jm_a E 0 0)), some (.int p1), none, none] [] M (sM_manyRead M p1) (fun e => z (some (.int e)) M) := by
    unfold sM_manyRead
    refine jm_iconst F dX9_manyRead_0 kc_0 ?_
    refine jm_istore_n (i := 2) (lv' := [some (.ref (jm_a E 0 0)), some (.int p1), some (.int 0), none]) F dX9_manyRead_1 rfl (by decide) rfl rfl ?_
    refine jm_iconst F dX9_manyRead_2 kc_0 ?_
    refine jm_istore_n (i := 3) (lv' := [some (.ref (jm_a E 0 0)), some (.int p1), some (.int 0), some (.int 0)]) F dX9_manyRead_3 rfl (by decide) rfl rfl ?_
    refine jm_bind (pcJ := 31) (lvJ := fun e5 => [none, none, some (.int e5), none]) (stJ := fun _ => []) (MJ := fun e5 => M) ?_ (fun e5 => ?_)
    · refine jm_weak F (lv' := [some (.ref (jm_a E 0 0)), some (.int p1), some (.int 0), some (.int 0)]) ⟨rfl, rfl, rfl, rfl, trivial⟩ ?_
      refine jm_loopR (lvH := fun s1 => [some (.ref (jm_a E 0 0)), some (.int p1), some (.int s1.1), some (.int s1.2)]) (MH := fun s1 => M) (fun s1 => ?_) jm_N (0, 0)
      unfold sM_manyRead_L4
      refine jm_iload_n (i := 3) F dX9_manyRead_4 rfl rfl ?_
      refine jm_aload_n (i := 0) F dX9_manyRead_5 rfl rfl ?_
      refine jm_getI F dX9_manyRead_6 fl_X9_106 lo_X9 rfl ?_
      refine jm_icmp_ge F dX9_manyRead_9 (fun c2 => ?_) (fun c2 => ?_)
      · exact jm_weakD F (lv' := [none, none, some (.int s1.1), none]) ⟨rfl, trivial⟩ (fun h => h)
      · refine jm_iload_n (i := 2) F dX9_manyRead_12 rfl rfl ?_
        refine jm_aload_n (i := 0) F dX9_manyRead_13 rfl rfl ?_
        refine jm_getR F dX9_manyRead_14 fl_X9_34 lo_X9 rfl ?_
        refine jm_iload_n (i := 3) F dX9_manyRead_17 rfl rfl ?_
        refine jm_iald F dX9_manyRead_18 la_X9_9 (fun v3 => ?_)
        refine jm_iload_n (i := 1) F dX9_manyRead_19 rfl rfl ?_
        refine jm_ishr F dX9_manyRead_20 ?_
        refine jm_iconst F dX9_manyRead_21 kc_1 ?_
        refine jm_iand F dX9_manyRead_22 ?_
        refine jm_iadd F dX9_manyRead_23 ?_
        refine jm_nameI (f := fun x4 => [.int x4]) (fun x4 => ?_) rfl
        refine jm_istore_n (i := 2) (lv' := [some (.ref (jm_a E 0 0)), some (.int p1), some (.int x4), some (.int s1.2)]) F dX9_manyRead_24 rfl (by decide) rfl rfl ?_
        refine jm_iinc (i := 3) (lv' := [some (.ref (jm_a E 0 0)), some (.int p1), some (.int x4), some (.int (s1.2 + 1))]) F dX9_manyRead_25 kc_1 rfl (by decide) rfl rfl ?_
        refine jm_goto F dX9_manyRead_28 ?_
        exact jm_weakD F (lv' := [some (.ref (jm_a E 0 0)), some (.int p1), some (.int x4), some (.int (s1.2 + 1))]) ⟨rfl, rfl, rfl, rfl, trivial⟩ (fun h => h)
    · refine jm_iload_n (i := 2) F dX9_manyRead_31 rfl rfl ?_
      exact jm_iret F dX9_manyRead_32 (fun h => h)
  exact G r h hz
theorem dX9_manyIn_0 : jm_d cX9_manyIn 0 (.iconst 0) 1 1 := ⟨by decide +kernel, rfl⟩
theorem dX9_manyIn_1 : jm_d cX9_manyIn 1 (.istore_n 3) 1 2 := ⟨by decide +kernel, rfl⟩
theorem dX9_manyIn_2 : jm_d cX9_manyIn 2 (.iconst 0) 1 3 := ⟨by decide +kernel, rfl⟩
theorem dX9_manyIn_3 : jm_d cX9_manyIn 3 (.istore 4) 2 5 := ⟨by decide +kernel, rfl⟩
theorem dX9_manyIn_5 : jm_d cX9_manyIn 5 (.iload 4) 2 7 := ⟨by decide +kernel, rfl⟩
theorem dX9_manyIn_7 : jm_d cX9_manyIn 7 (.iload_n 1) 1 8 := ⟨by decide +kernel, rfl⟩
theorem dX9_manyIn_8 : jm_b cX9_manyIn 8 (.if_icmp .ge) 11 33 := ⟨25, by decide +kernel, rfl, by decide⟩
theorem dX9_manyIn_11 : jm_d cX9_manyIn 11 (.iload_n 3) 1 12 := ⟨by decide +kernel, rfl⟩
theorem dX9_manyIn_12 : jm_d cX9_manyIn 12 (.aload_n 0) 1 13 := ⟨by decide +kernel, rfl⟩
theorem dX9_manyIn_13 : jm_d cX9_manyIn 13 (.iload 4) 2 15 := ⟨by decide +kernel, rfl⟩
theorem dX9_manyIn_15 : jm_d cX9_manyIn 15 (.iaload) 1 16 := ⟨by decide +kernel, rfl⟩
theorem dX9_manyIn_16 : jm_d cX9_manyIn 16 (.iload_n 2) 1 17 := ⟨by decide +kernel, rfl⟩
theorem dX9_manyIn_17 : jm_b cX9_manyIn 17 (.if_icmp .ne) 20 24 := ⟨7, by decide +kernel, rfl, by decide⟩
theorem dX9_manyIn_20 : jm_d cX9_manyIn 20 (.iconst 1) 1 21 := ⟨by decide +kernel, rfl⟩
theorem dX9_manyIn_21 : jm_b cX9_manyIn 21 .goto 24 25 := ⟨4, by decide +kernel, rfl, by decide⟩
theorem dX9_manyIn_25 : jm_d cX9_manyIn 25 (.iadd) 1 26 := ⟨by decide +kernel, rfl⟩
theorem dX9_manyIn_26 : jm_d cX9_manyIn 26 (.istore_n 3) 1 27 := ⟨by decide +kernel, rfl⟩
theorem dX9_manyIn_27 : jm_d cX9_manyIn 27 (.iinc 4 1) 3 30 := ⟨by decide +kernel, rfl⟩
theorem dX9_manyIn_30 : jm_b cX9_manyIn 30 .goto 33 5 := ⟨(-25), by decide +kernel, rfl, by decide⟩
theorem dX9_manyIn_24 : jm_d cX9_manyIn 24 (.iconst 0) 1 25 := ⟨by decide +kernel, rfl⟩
theorem dX9_manyIn_33 : jm_d cX9_manyIn 33 (.iload_n 3) 1 34 := ⟨by decide +kernel, rfl⟩
theorem dX9_manyIn_34 : jm_d cX9_manyIn 34 (.ireturn) 1 35 := ⟨by decide +kernel, rfl⟩
set_option maxHeartbeats 4000000 in
set_option maxRecDepth 100000 in
theorem kM_manyIn (E : jm_Ev) (hE : jm_dj E jm_LM) {M : jm_M} {p1 : Nat × Nat} {p2 : Int32} {p3 : Int32}  {r : Int32} (h : sM_manyIn M p1 p2 p3 = some r) : jm_Ct E jm_LM yX9_manyIn cX9_manyIn 5 (some .int) 0 0 [.ref (jm_a E p1.1 p1.2), .int p2, .int p3] M (some (.int r)) M := by
  refine jm_enter (lv := [some (.ref (jm_a E p1.1 p1.2)), some (.int p2), some (.int p3), none, none]) hE (by decide) (Nat.le_of_ble_eq_true rfl) rfl ?_
  intro z w F hz
  have G : jm_G w 0 [some (.ref (jm_a E p1.1 p1.2)), some (.int p2), some (.int p3), none, none] [] M (sM_manyIn M p1 p2 p3) (fun e => z (some (.int e)) M) := by
    unfold sM_manyIn
    refine jm_iconst F dX9_manyIn_0 kc_0 ?_
    refine jm_istore_n (i := 3) (lv' := [some (.ref (jm_a E p1.1 p1.2)), some (.int p2), some (.int p3), some (.int 0), none]) F dX9_manyIn_1 rfl (by decide) rfl rfl ?_
    refine jm_iconst F dX9_manyIn_2 kc_0 ?_
    refine jm_istore (i := 4) (lv' := [some (.ref (jm_a E p1.1 p1.2)), some (.int p2), some (.int p3), some (.int 0), some (.int 0)]) F dX9_manyIn_3 (by decide) rfl rfl ?_
    refine jm_bind (pcJ := 33) (lvJ := fun e8 => [none, none, none, some (.int e8), none]) (stJ := fun _ => []) (MJ := fun e8 => M) ?_ (fun e8 => ?_)
    · refine jm_weak F (lv' := [some (.ref (jm_a E p1.1 p1.2)), some (.int p2), some (.int p3), some (.int 0), some (.int 0)]) ⟨rfl, rfl, rfl, rfl, rfl, trivial⟩ ?_
      refine jm_loopR (lvH := fun s1 => [some (.ref (jm_a E p1.1 p1.2)), some (.int p2), some (.int p3), some (.int s1.1), some (.int s1.2)]) (MH := fun s1 => M) (fun s1 => ?_) jm_N (0, 0)
      unfold sM_manyIn_L5
      refine jm_iload F dX9_manyIn_5 rfl ?_
      refine jm_iload_n (i := 1) F dX9_manyIn_7 rfl rfl ?_
      refine jm_icmp_ge F dX9_manyIn_8 (fun c2 => ?_) (fun c2 => ?_)
      · exact jm_weakD F (lv' := [none, none, none, some (.int s1.1), none]) ⟨rfl, trivial⟩ (fun h => h)
      · refine jm_iload_n (i := 3) F dX9_manyIn_11 rfl rfl ?_
        refine jm_aload_n (i := 0) F dX9_manyIn_12 rfl rfl ?_
        refine jm_iload F dX9_manyIn_13 rfl ?_
        refine jm_lenB (r := p1) (fun N3 hN3 => ?_)
        refine jm_iald F dX9_manyIn_15 hN3 (fun v4 => ?_)
        refine jm_iload_n (i := 2) F dX9_manyIn_16 rfl rfl ?_
        refine jm_icmp_ne F dX9_manyIn_17 (fun c5 => ?_) (fun c5 => ?_)
        · refine jm_iconst F dX9_manyIn_20 kc_1 ?_
          refine jm_goto F dX9_manyIn_21 ?_
          refine jm_iadd F dX9_manyIn_25 ?_
          refine jm_nameI (f := fun x6 => [.int x6]) (fun x6 => ?_) rfl
          refine jm_istore_n (i := 3) (lv' := [some (.ref (jm_a E p1.1 p1.2)), some (.int p2), some (.int p3), some (.int x6), some (.int s1.2)]) F dX9_manyIn_26 rfl (by decide) rfl rfl ?_
          refine jm_iinc (i := 4) (lv' := [some (.ref (jm_a E p1.1 p1.2)), some (.int p2), some (.int p3), some (.int x6), some (.int (s1.2 + 1))]) F dX9_manyIn_27 kc_1 rfl (by decide) rfl rfl ?_
          refine jm_goto F dX9_manyIn_30 ?_
          exact jm_weakD F (lv' := [some (.ref (jm_a E p1.1 p1.2)), some (.int p2), some (.int p3), some (.int x6), some (.int (s1.2 + 1))]) ⟨rfl, rfl, rfl, rfl, rfl, trivial⟩ (fun h => h)
        · refine jm_iconst F dX9_manyIn_24 kc_0 ?_
          refine jm_iadd F dX9_manyIn_25 ?_
          refine jm_nameI (f := fun x7 => [.int x7]) (fun x7 => ?_) rfl
          refine jm_istore_n (i := 3) (lv' := [some (.ref (jm_a E p1.1 p1.2)), some (.int p2), some (.int p3), some (.int x7), some (.int s1.2)]) F dX9_manyIn_26 rfl (by decide) rfl rfl ?_
          refine jm_iinc (i := 4) (lv' := [some (.ref (jm_a E p1.1 p1.2)), some (.int p2), some (.int p3), some (.int x7), some (.int (s1.2 + 1))]) F dX9_manyIn_27 kc_1 rfl (by decide) rfl rfl ?_
          refine jm_goto F dX9_manyIn_30 ?_
          exact jm_weakD F (lv' := [some (.ref (jm_a E p1.1 p1.2)), some (.int p2), some (.int p3), some (.int x7), some (.int (s1.2 + 1))]) ⟨rfl, rfl, rfl, rfl, rfl, trivial⟩ (fun h => h)
    · refine jm_iload_n (i := 3) F dX9_manyIn_33 rfl rfl ?_
      exact jm_iret F dX9_manyIn_34 (fun h => h)
  exact G r h hz
theorem dX9_person_0 : jm_d cX9_person 0 (.aload_n 0) 1 1 := ⟨by decide +kernel, rfl⟩
theorem dX9_person_1 : jm_d cX9_person 1 (.iload_n 1) 1 2 := ⟨by decide +kernel, rfl⟩
theorem dX9_person_2 : jm_d cX9_person 2 (.invokevirtual 102) 3 5 := ⟨by decide +kernel, rfl⟩
theorem dX9_person_5 : jm_b cX9_person 5 (.ifCond .ne) 8 14 := ⟨9, by decide +kernel, rfl, by decide⟩
theorem dX9_person_8 : jm_d cX9_person 8 (.aload_n 0) 1 9 := ⟨by decide +kernel, rfl⟩
theorem dX9_person_9 : jm_d cX9_person 9 (.iconst (-1)) 1 10 := ⟨by decide +kernel, rfl⟩
theorem dX9_person_10 : jm_d cX9_person 10 (.invokevirtual 172) 3 13 := ⟨by decide +kernel, rfl⟩
theorem dX9_person_13 : jm_d cX9_person 13 (.ireturn) 1 14 := ⟨by decide +kernel, rfl⟩
theorem dX9_person_14 : jm_d cX9_person 14 (.iload_n 2) 1 15 := ⟨by decide +kernel, rfl⟩
theorem dX9_person_15 : decode cX9_person 15 = .ok (.tableswitch 90 0 5 #[37, 44, 51, 58, 64, 77], 37) := by decide +kernel
theorem dX9_person_52 : jm_d cX9_person 52 (.aload_n 0) 1 53 := ⟨by decide +kernel, rfl⟩
theorem dX9_person_53 : jm_d cX9_person 53 (.getfield 13) 3 56 := ⟨by decide +kernel, rfl⟩
theorem dX9_person_56 : jm_d cX9_person 56 (.iload_n 1) 1 57 := ⟨by decide +kernel, rfl⟩
theorem dX9_person_57 : jm_d cX9_person 57 (.iaload) 1 58 := ⟨by decide +kernel, rfl⟩
theorem dX9_person_58 : jm_d cX9_person 58 (.ireturn) 1 59 := ⟨by decide +kernel, rfl⟩
theorem dX9_person_59 : jm_d cX9_person 59 (.aload_n 0) 1 60 := ⟨by decide +kernel, rfl⟩
theorem dX9_person_60 : jm_d cX9_person 60 (.getfield 16) 3 63 := ⟨by decide +kernel, rfl⟩
theorem dX9_person_63 : jm_d cX9_person 63 (.iload_n 1) 1 64 := ⟨by decide +kernel, rfl⟩
theorem dX9_person_64 : jm_d cX9_person 64 (.iaload) 1 65 := ⟨by decide +kernel, rfl⟩
theorem dX9_person_65 : jm_d cX9_person 65 (.ireturn) 1 66 := ⟨by decide +kernel, rfl⟩
theorem dX9_person_66 : jm_d cX9_person 66 (.aload_n 0) 1 67 := ⟨by decide +kernel, rfl⟩
theorem dX9_person_67 : jm_d cX9_person 67 (.getfield 19) 3 70 := ⟨by decide +kernel, rfl⟩
theorem dX9_person_70 : jm_d cX9_person 70 (.iload_n 1) 1 71 := ⟨by decide +kernel, rfl⟩
theorem dX9_person_71 : jm_d cX9_person 71 (.iaload) 1 72 := ⟨by decide +kernel, rfl⟩
theorem dX9_person_72 : jm_d cX9_person 72 (.ireturn) 1 73 := ⟨by decide +kernel, rfl⟩
theorem dX9_person_73 : jm_d cX9_person 73 (.aload_n 0) 1 74 := ⟨by decide +kernel, rfl⟩
theorem dX9_person_74 : jm_d cX9_person 74 (.iload_n 1) 1 75 := ⟨by decide +kernel, rfl⟩
theorem dX9_person_75 : jm_d cX9_person 75 (.invokevirtual 282) 3 78 := ⟨by decide +kernel, rfl⟩
theorem dX9_person_78 : jm_d cX9_person 78 (.ireturn) 1 79 := ⟨by decide +kernel, rfl⟩
theorem dX9_person_79 : jm_d cX9_person 79 (.aload_n 0) 1 80 := ⟨by decide +kernel, rfl⟩
theorem dX9_person_80 : jm_d cX9_person 80 (.getfield 31) 3 83 := ⟨by decide +kernel, rfl⟩
theorem dX9_person_83 : jm_d cX9_person 83 (.aload_n 0) 1 84 := ⟨by decide +kernel, rfl⟩
theorem dX9_person_84 : jm_d cX9_person 84 (.getfield 106) 3 87 := ⟨by decide +kernel, rfl⟩
theorem dX9_person_87 : jm_d cX9_person 87 (.iload_n 1) 1 88 := ⟨by decide +kernel, rfl⟩
theorem dX9_person_88 : jm_d cX9_person 88 (.invokestatic 285) 3 91 := ⟨by decide +kernel, rfl⟩
theorem dX9_person_91 : jm_d cX9_person 91 (.ireturn) 1 92 := ⟨by decide +kernel, rfl⟩
theorem dX9_person_92 : jm_d cX9_person 92 (.aload_n 0) 1 93 := ⟨by decide +kernel, rfl⟩
theorem dX9_person_93 : jm_d cX9_person 93 (.getfield 28) 3 96 := ⟨by decide +kernel, rfl⟩
theorem dX9_person_96 : jm_d cX9_person 96 (.aload_n 0) 1 97 := ⟨by decide +kernel, rfl⟩
theorem dX9_person_97 : jm_d cX9_person 97 (.getfield 106) 3 100 := ⟨by decide +kernel, rfl⟩
theorem dX9_person_100 : jm_d cX9_person 100 (.iload_n 1) 1 101 := ⟨by decide +kernel, rfl⟩
theorem dX9_person_101 : jm_d cX9_person 101 (.invokestatic 285) 3 104 := ⟨by decide +kernel, rfl⟩
theorem dX9_person_104 : jm_d cX9_person 104 (.ireturn) 1 105 := ⟨by decide +kernel, rfl⟩
theorem dX9_person_105 : jm_d cX9_person 105 (.aload_n 0) 1 106 := ⟨by decide +kernel, rfl⟩
theorem dX9_person_106 : jm_d cX9_person 106 (.bipush (-2)) 2 108 := ⟨by decide +kernel, rfl⟩
theorem dX9_person_108 : jm_d cX9_person 108 (.invokevirtual 172) 3 111 := ⟨by decide +kernel, rfl⟩
theorem dX9_person_111 : jm_d cX9_person 111 (.ireturn) 1 112 := ⟨by decide +kernel, rfl⟩
set_option maxHeartbeats 4000000 in
set_option maxRecDepth 100000 in
theorem kM_person (E : jm_Ev) (hE : jm_dj E jm_LM) {M : jm_M} {p1 : Int32} {p2 : Int32}  {r : Int32 × jm_M} (h : sM_person M p1 p2 = some r) : jm_Ct E jm_LM yX9_person cX9_person 3 (some .int) 2 43 [.ref (jm_a E 0 0), .int p1, .int p2] M (some (.int r.1)) r.2 := by
  refine jm_enter (lv := [some (.ref (jm_a E 0 0)), some (.int p1), some (.int p2)]) hE (by decide) (Nat.le_of_ble_eq_true rfl) rfl ?_
  intro z w F hz
  have G : jm_G w 0 [some (.ref (jm_a E 0 0)), some (.int p1), some (.int p2)] [] M (sM_person M p1 p2) (fun e => z (some (.int e.1)) e.2) := by
    unfold sM_person
    refine jm_aload_n (i := 0) F dX9_person_0 rfl rfl ?_
    refine jm_iload_n (i := 1) F dX9_person_1 rfl rfl ?_
    refine jm_callV (As := [.int p1]) (st := []) (rv := fun r => some (.int r)) (mm := fun _ => M) F dX9_person_2 qX9_102 rfl lo_X9 rfl (fun r h => kM_isPerson E hE h) rfl (Nat.le_of_ble_eq_true rfl) ⟨Nat.le_of_ble_eq_true rfl, Nat.le_of_ble_eq_true rfl⟩ (fun r1 => ?_)
    refine jm_if_ne F dX9_person_5 (fun c2 => ?_) (fun c2 => ?_)
    · refine jm_aload_n (i := 0) F dX9_person_8 rfl rfl ?_
      refine jm_iconst F dX9_person_9 kc_m1 ?_
      refine jm_callV (As := [.int (-1)]) (st := []) (rv := fun r => some (.int r.1)) (mm := fun r => r.2) F dX9_person_10 qX9_172 rfl lo_X9 rfl (fun r h => kM_no E hE h) rfl (Nat.le_of_ble_eq_true rfl) ⟨Nat.le_of_ble_eq_true rfl, Nat.le_of_ble_eq_true rfl⟩ (fun r3 => ?_)
      exact jm_iret F dX9_person_13 (fun h => h)
    · refine jm_iload_n (i := 2) F dX9_person_14 rfl rfl ?_
      refine jm_ite (fun c4 => ?_) (fun c4 => ?_)
      · refine jm_tsw (tgt := 52) F dX9_person_15 c4 (by decide) (by decide) rfl (by decide) ?_
        refine jm_aload_n (i := 0) F dX9_person_52 rfl rfl ?_
        refine jm_getR F dX9_person_53 fl_X9_13 lo_X9 rfl ?_
        refine jm_iload_n (i := 1) F dX9_person_56 rfl rfl ?_
        refine jm_iald F dX9_person_57 la_X9_2 (fun v5 => ?_)
        exact jm_iret F dX9_person_58 (fun h => h)
      · refine jm_ite (fun c6 => ?_) (fun c6 => ?_)
        · refine jm_tsw (tgt := 59) F dX9_person_15 c6 (by decide) (by decide) rfl (by decide) ?_
          refine jm_aload_n (i := 0) F dX9_person_59 rfl rfl ?_
          refine jm_getR F dX9_person_60 fl_X9_16 lo_X9 rfl ?_
          refine jm_iload_n (i := 1) F dX9_person_63 rfl rfl ?_
          refine jm_iald F dX9_person_64 la_X9_3 (fun v7 => ?_)
          exact jm_iret F dX9_person_65 (fun h => h)
        · refine jm_ite (fun c8 => ?_) (fun c8 => ?_)
          · refine jm_tsw (tgt := 66) F dX9_person_15 c8 (by decide) (by decide) rfl (by decide) ?_
            refine jm_aload_n (i := 0) F dX9_person_66 rfl rfl ?_
            refine jm_getR F dX9_person_67 fl_X9_19 lo_X9 rfl ?_
            refine jm_iload_n (i := 1) F dX9_person_70 rfl rfl ?_
            refine jm_iald F dX9_person_71 la_X9_4 (fun v9 => ?_)
            exact jm_iret F dX9_person_72 (fun h => h)
          · refine jm_ite (fun c10 => ?_) (fun c10 => ?_)
            · refine jm_tsw (tgt := 73) F dX9_person_15 c10 (by decide) (by decide) rfl (by decide) ?_
              refine jm_aload_n (i := 0) F dX9_person_73 rfl rfl ?_
              refine jm_iload_n (i := 1) F dX9_person_74 rfl rfl ?_
              refine jm_callV (As := [.int p1]) (st := []) (rv := fun r => some (.int r)) (mm := fun _ => M) F dX9_person_75 qX9_282 rfl lo_X9 rfl (fun r h => kM_manyRead E hE h) rfl (Nat.le_of_ble_eq_true rfl) ⟨Nat.le_of_ble_eq_true rfl, Nat.le_of_ble_eq_true rfl⟩ (fun r11 => ?_)
              exact jm_iret F dX9_person_78 (fun h => h)
            · refine jm_ite (fun c12 => ?_) (fun c12 => ?_)
              · refine jm_tsw (tgt := 79) F dX9_person_15 c12 (by decide) (by decide) rfl (by decide) ?_
                refine jm_aload_n (i := 0) F dX9_person_79 rfl rfl ?_
                refine jm_getR F dX9_person_80 fl_X9_31 lo_X9 rfl ?_
                refine jm_aload_n (i := 0) F dX9_person_83 rfl rfl ?_
                refine jm_getI F dX9_person_84 fl_X9_106 lo_X9 rfl ?_
                refine jm_iload_n (i := 1) F dX9_person_87 rfl rfl ?_
                refine jm_callS (As := [.ref (jm_a E 0 8), .int (M 0 0 14), .int p1]) (st := []) (rv := fun r => some (.int r)) (mm := fun _ => M) F dX9_person_88 qX9_285 rfl (fun r h => kM_manyIn E hE h) rfl (Nat.le_of_ble_eq_true rfl) ⟨Nat.le_of_ble_eq_true rfl, Nat.le_of_ble_eq_true rfl⟩ (fun r13 => ?_)
                exact jm_iret F dX9_person_91 (fun h => h)
              · refine jm_ite (fun c14 => ?_) (fun c14 => ?_)
                · refine jm_tsw (tgt := 92) F dX9_person_15 c14 (by decide) (by decide) rfl (by decide) ?_
                  refine jm_aload_n (i := 0) F dX9_person_92 rfl rfl ?_
                  refine jm_getR F dX9_person_93 fl_X9_28 lo_X9 rfl ?_
                  refine jm_aload_n (i := 0) F dX9_person_96 rfl rfl ?_
                  refine jm_getI F dX9_person_97 fl_X9_106 lo_X9 rfl ?_
                  refine jm_iload_n (i := 1) F dX9_person_100 rfl rfl ?_
                  refine jm_callS (As := [.ref (jm_a E 0 7), .int (M 0 0 14), .int p1]) (st := []) (rv := fun r => some (.int r)) (mm := fun _ => M) F dX9_person_101 qX9_285 rfl (fun r h => kM_manyIn E hE h) rfl (Nat.le_of_ble_eq_true rfl) ⟨Nat.le_of_ble_eq_true rfl, Nat.le_of_ble_eq_true rfl⟩ (fun r15 => ?_)
                  exact jm_iret F dX9_person_104 (fun h => h)
                · refine jm_tsd (tgt := 105) F dX9_person_15 (by
                      have e0 := jm_ne c4 (a := 0) (by decide)
                      have e1 := jm_ne c6 (a := 1) (by decide)
                      have e2 := jm_ne c8 (a := 2) (by decide)
                      have e3 := jm_ne c10 (a := 3) (by decide)
                      have e4 := jm_ne c12 (a := 4) (by decide)
                      have e5 := jm_ne c14 (a := 5) (by decide)
                      omega) (by decide) ?_
                  refine jm_aload_n (i := 0) F dX9_person_105 rfl rfl ?_
                  refine jm_bipush F dX9_person_106 kb_m2 ?_
                  refine jm_callV (As := [.int (-2)]) (st := []) (rv := fun r => some (.int r.1)) (mm := fun r => r.2) F dX9_person_108 qX9_172 rfl lo_X9 rfl (fun r h => kM_no E hE h) rfl (Nat.le_of_ble_eq_true rfl) ⟨Nat.le_of_ble_eq_true rfl, Nat.le_of_ble_eq_true rfl⟩ (fun r16 => ?_)
                  exact jm_iret F dX9_person_111 (fun h => h)
  exact G r h hz
theorem dX9_book_0 : jm_d cX9_book 0 (.aload_n 0) 1 1 := ⟨by decide +kernel, rfl⟩
theorem dX9_book_1 : jm_d cX9_book 1 (.iload_n 1) 1 2 := ⟨by decide +kernel, rfl⟩
theorem dX9_book_2 : jm_d cX9_book 2 (.invokevirtual 289) 3 5 := ⟨by decide +kernel, rfl⟩
theorem dX9_book_5 : jm_b cX9_book 5 (.ifCond .ne) 8 14 := ⟨9, by decide +kernel, rfl, by decide⟩
theorem dX9_book_8 : jm_d cX9_book 8 (.aload_n 0) 1 9 := ⟨by decide +kernel, rfl⟩
theorem dX9_book_9 : jm_d cX9_book 9 (.iconst (-1)) 1 10 := ⟨by decide +kernel, rfl⟩
theorem dX9_book_10 : jm_d cX9_book 10 (.invokevirtual 172) 3 13 := ⟨by decide +kernel, rfl⟩
theorem dX9_book_13 : jm_d cX9_book 13 (.ireturn) 1 14 := ⟨by decide +kernel, rfl⟩
theorem dX9_book_14 : jm_d cX9_book 14 (.iload_n 2) 1 15 := ⟨by decide +kernel, rfl⟩
theorem dX9_book_15 : decode cX9_book 15 = .ok (.tableswitch 99 0 7 #[45, 52, 59, 66, 73, 80, 86, 92], 45) := by decide +kernel
theorem dX9_book_60 : jm_d cX9_book 60 (.aload_n 0) 1 61 := ⟨by decide +kernel, rfl⟩
theorem dX9_book_61 : jm_d cX9_book 61 (.getfield 22) 3 64 := ⟨by decide +kernel, rfl⟩
theorem dX9_book_64 : jm_d cX9_book 64 (.iload_n 1) 1 65 := ⟨by decide +kernel, rfl⟩
theorem dX9_book_65 : jm_d cX9_book 65 (.iaload) 1 66 := ⟨by decide +kernel, rfl⟩
theorem dX9_book_66 : jm_d cX9_book 66 (.ireturn) 1 67 := ⟨by decide +kernel, rfl⟩
theorem dX9_book_67 : jm_d cX9_book 67 (.aload_n 0) 1 68 := ⟨by decide +kernel, rfl⟩
theorem dX9_book_68 : jm_d cX9_book 68 (.getfield 25) 3 71 := ⟨by decide +kernel, rfl⟩
theorem dX9_book_71 : jm_d cX9_book 71 (.iload_n 1) 1 72 := ⟨by decide +kernel, rfl⟩
theorem dX9_book_72 : jm_d cX9_book 72 (.iaload) 1 73 := ⟨by decide +kernel, rfl⟩
theorem dX9_book_73 : jm_d cX9_book 73 (.ireturn) 1 74 := ⟨by decide +kernel, rfl⟩
theorem dX9_book_74 : jm_d cX9_book 74 (.aload_n 0) 1 75 := ⟨by decide +kernel, rfl⟩
theorem dX9_book_75 : jm_d cX9_book 75 (.getfield 28) 3 78 := ⟨by decide +kernel, rfl⟩
theorem dX9_book_78 : jm_d cX9_book 78 (.iload_n 1) 1 79 := ⟨by decide +kernel, rfl⟩
theorem dX9_book_79 : jm_d cX9_book 79 (.iaload) 1 80 := ⟨by decide +kernel, rfl⟩
theorem dX9_book_80 : jm_d cX9_book 80 (.ireturn) 1 81 := ⟨by decide +kernel, rfl⟩
theorem dX9_book_81 : jm_d cX9_book 81 (.aload_n 0) 1 82 := ⟨by decide +kernel, rfl⟩
theorem dX9_book_82 : jm_d cX9_book 82 (.getfield 31) 3 85 := ⟨by decide +kernel, rfl⟩
theorem dX9_book_85 : jm_d cX9_book 85 (.iload_n 1) 1 86 := ⟨by decide +kernel, rfl⟩
theorem dX9_book_86 : jm_d cX9_book 86 (.iaload) 1 87 := ⟨by decide +kernel, rfl⟩
theorem dX9_book_87 : jm_d cX9_book 87 (.ireturn) 1 88 := ⟨by decide +kernel, rfl⟩
theorem dX9_book_88 : jm_d cX9_book 88 (.aload_n 0) 1 89 := ⟨by decide +kernel, rfl⟩
theorem dX9_book_89 : jm_d cX9_book 89 (.getfield 34) 3 92 := ⟨by decide +kernel, rfl⟩
theorem dX9_book_92 : jm_d cX9_book 92 (.iload_n 1) 1 93 := ⟨by decide +kernel, rfl⟩
theorem dX9_book_93 : jm_d cX9_book 93 (.iaload) 1 94 := ⟨by decide +kernel, rfl⟩
theorem dX9_book_94 : jm_d cX9_book 94 (.ireturn) 1 95 := ⟨by decide +kernel, rfl⟩
theorem dX9_book_95 : jm_d cX9_book 95 (.aload_n 0) 1 96 := ⟨by decide +kernel, rfl⟩
theorem dX9_book_96 : jm_d cX9_book 96 (.iload_n 1) 1 97 := ⟨by decide +kernel, rfl⟩
theorem dX9_book_97 : jm_d cX9_book 97 (.invokevirtual 119) 3 100 := ⟨by decide +kernel, rfl⟩
theorem dX9_book_100 : jm_d cX9_book 100 (.ireturn) 1 101 := ⟨by decide +kernel, rfl⟩
theorem dX9_book_101 : jm_d cX9_book 101 (.aload_n 0) 1 102 := ⟨by decide +kernel, rfl⟩
theorem dX9_book_102 : jm_d cX9_book 102 (.iload_n 1) 1 103 := ⟨by decide +kernel, rfl⟩
theorem dX9_book_103 : jm_d cX9_book 103 (.invokevirtual 292) 3 106 := ⟨by decide +kernel, rfl⟩
theorem dX9_book_106 : jm_d cX9_book 106 (.ireturn) 1 107 := ⟨by decide +kernel, rfl⟩
theorem dX9_book_107 : jm_d cX9_book 107 (.aload_n 0) 1 108 := ⟨by decide +kernel, rfl⟩
theorem dX9_book_108 : jm_d cX9_book 108 (.getfield 37) 3 111 := ⟨by decide +kernel, rfl⟩
theorem dX9_book_111 : jm_d cX9_book 111 (.iload_n 1) 1 112 := ⟨by decide +kernel, rfl⟩
theorem dX9_book_112 : jm_d cX9_book 112 (.iaload) 1 113 := ⟨by decide +kernel, rfl⟩
theorem dX9_book_113 : jm_d cX9_book 113 (.ireturn) 1 114 := ⟨by decide +kernel, rfl⟩
theorem dX9_book_114 : jm_d cX9_book 114 (.aload_n 0) 1 115 := ⟨by decide +kernel, rfl⟩
theorem dX9_book_115 : jm_d cX9_book 115 (.bipush (-2)) 2 117 := ⟨by decide +kernel, rfl⟩
theorem dX9_book_117 : jm_d cX9_book 117 (.invokevirtual 172) 3 120 := ⟨by decide +kernel, rfl⟩
theorem dX9_book_120 : jm_d cX9_book 120 (.ireturn) 1 121 := ⟨by decide +kernel, rfl⟩
set_option maxHeartbeats 4000000 in
set_option maxRecDepth 100000 in
theorem kM_book (E : jm_Ev) (hE : jm_dj E jm_LM) {M : jm_M} {p1 : Int32} {p2 : Int32}  {r : Int32 × jm_M} (h : sM_book M p1 p2 = some r) : jm_Ct E jm_LM yX9_book cX9_book 3 (some .int) 3 67 [.ref (jm_a E 0 0), .int p1, .int p2] M (some (.int r.1)) r.2 := by
  refine jm_enter (lv := [some (.ref (jm_a E 0 0)), some (.int p1), some (.int p2)]) hE (by decide) (Nat.le_of_ble_eq_true rfl) rfl ?_
  intro z w F hz
  have G : jm_G w 0 [some (.ref (jm_a E 0 0)), some (.int p1), some (.int p2)] [] M (sM_book M p1 p2) (fun e => z (some (.int e.1)) e.2) := by
    unfold sM_book
    refine jm_aload_n (i := 0) F dX9_book_0 rfl rfl ?_
    refine jm_iload_n (i := 1) F dX9_book_1 rfl rfl ?_
    refine jm_callV (As := [.int p1]) (st := []) (rv := fun r => some (.int r)) (mm := fun _ => M) F dX9_book_2 qX9_289 rfl lo_X9 rfl (fun r h => kM_isBook E hE h) rfl (Nat.le_of_ble_eq_true rfl) ⟨Nat.le_of_ble_eq_true rfl, Nat.le_of_ble_eq_true rfl⟩ (fun r1 => ?_)
    refine jm_if_ne F dX9_book_5 (fun c2 => ?_) (fun c2 => ?_)
    · refine jm_aload_n (i := 0) F dX9_book_8 rfl rfl ?_
      refine jm_iconst F dX9_book_9 kc_m1 ?_
      refine jm_callV (As := [.int (-1)]) (st := []) (rv := fun r => some (.int r.1)) (mm := fun r => r.2) F dX9_book_10 qX9_172 rfl lo_X9 rfl (fun r h => kM_no E hE h) rfl (Nat.le_of_ble_eq_true rfl) ⟨Nat.le_of_ble_eq_true rfl, Nat.le_of_ble_eq_true rfl⟩ (fun r3 => ?_)
      exact jm_iret F dX9_book_13 (fun h => h)
    · refine jm_iload_n (i := 2) F dX9_book_14 rfl rfl ?_
      refine jm_ite (fun c4 => ?_) (fun c4 => ?_)
      · refine jm_tsw (tgt := 60) F dX9_book_15 c4 (by decide) (by decide) rfl (by decide) ?_
        refine jm_aload_n (i := 0) F dX9_book_60 rfl rfl ?_
        refine jm_getR F dX9_book_61 fl_X9_22 lo_X9 rfl ?_
        refine jm_iload_n (i := 1) F dX9_book_64 rfl rfl ?_
        refine jm_iald F dX9_book_65 la_X9_5 (fun v5 => ?_)
        exact jm_iret F dX9_book_66 (fun h => h)
      · refine jm_ite (fun c6 => ?_) (fun c6 => ?_)
        · refine jm_tsw (tgt := 67) F dX9_book_15 c6 (by decide) (by decide) rfl (by decide) ?_
          refine jm_aload_n (i := 0) F dX9_book_67 rfl rfl ?_
          refine jm_getR F dX9_book_68 fl_X9_25 lo_X9 rfl ?_
          refine jm_iload_n (i := 1) F dX9_book_71 rfl rfl ?_
          refine jm_iald F dX9_book_72 la_X9_6 (fun v7 => ?_)
          exact jm_iret F dX9_book_73 (fun h => h)
        · refine jm_ite (fun c8 => ?_) (fun c8 => ?_)
          · refine jm_tsw (tgt := 74) F dX9_book_15 c8 (by decide) (by decide) rfl (by decide) ?_
            refine jm_aload_n (i := 0) F dX9_book_74 rfl rfl ?_
            refine jm_getR F dX9_book_75 fl_X9_28 lo_X9 rfl ?_
            refine jm_iload_n (i := 1) F dX9_book_78 rfl rfl ?_
            refine jm_iald F dX9_book_79 la_X9_7 (fun v9 => ?_)
            exact jm_iret F dX9_book_80 (fun h => h)
          · refine jm_ite (fun c10 => ?_) (fun c10 => ?_)
            · refine jm_tsw (tgt := 81) F dX9_book_15 c10 (by decide) (by decide) rfl (by decide) ?_
              refine jm_aload_n (i := 0) F dX9_book_81 rfl rfl ?_
              refine jm_getR F dX9_book_82 fl_X9_31 lo_X9 rfl ?_
              refine jm_iload_n (i := 1) F dX9_book_85 rfl rfl ?_
              refine jm_iald F dX9_book_86 la_X9_8 (fun v11 => ?_)
              exact jm_iret F dX9_book_87 (fun h => h)
            · refine jm_ite (fun c12 => ?_) (fun c12 => ?_)
              · refine jm_tsw (tgt := 88) F dX9_book_15 c12 (by decide) (by decide) rfl (by decide) ?_
                refine jm_aload_n (i := 0) F dX9_book_88 rfl rfl ?_
                refine jm_getR F dX9_book_89 fl_X9_34 lo_X9 rfl ?_
                refine jm_iload_n (i := 1) F dX9_book_92 rfl rfl ?_
                refine jm_iald F dX9_book_93 la_X9_9 (fun v13 => ?_)
                exact jm_iret F dX9_book_94 (fun h => h)
              · refine jm_ite (fun c14 => ?_) (fun c14 => ?_)
                · refine jm_tsw (tgt := 95) F dX9_book_15 c14 (by decide) (by decide) rfl (by decide) ?_
                  refine jm_aload_n (i := 0) F dX9_book_95 rfl rfl ?_
                  refine jm_iload_n (i := 1) F dX9_book_96 rfl rfl ?_
                  refine jm_callV (As := [.int p1]) (st := []) (rv := fun r => some (.int r)) (mm := fun _ => M) F dX9_book_97 qX9_119 rfl lo_X9 rfl (fun r h => kM_weighs E hE h) rfl (Nat.le_of_ble_eq_true rfl) ⟨Nat.le_of_ble_eq_true rfl, Nat.le_of_ble_eq_true rfl⟩ (fun r15 => ?_)
                  exact jm_iret F dX9_book_100 (fun h => h)
                · refine jm_ite (fun c16 => ?_) (fun c16 => ?_)
                  · refine jm_tsw (tgt := 101) F dX9_book_15 c16 (by decide) (by decide) rfl (by decide) ?_
                    refine jm_aload_n (i := 0) F dX9_book_101 rfl rfl ?_
                    refine jm_iload_n (i := 1) F dX9_book_102 rfl rfl ?_
                    refine jm_callV (As := [.int p1]) (st := []) (rv := fun r => some (.int r)) (mm := fun _ => M) F dX9_book_103 qX9_292 rfl lo_X9 rfl (fun r h => kM_price E hE h) rfl (Nat.le_of_ble_eq_true rfl) ⟨Nat.le_of_ble_eq_true rfl, Nat.le_of_ble_eq_true rfl⟩ (fun r17 => ?_)
                    exact jm_iret F dX9_book_106 (fun h => h)
                  · refine jm_ite (fun c18 => ?_) (fun c18 => ?_)
                    · refine jm_tsw (tgt := 107) F dX9_book_15 c18 (by decide) (by decide) rfl (by decide) ?_
                      refine jm_aload_n (i := 0) F dX9_book_107 rfl rfl ?_
                      refine jm_getR F dX9_book_108 fl_X9_37 lo_X9 rfl ?_
                      refine jm_iload_n (i := 1) F dX9_book_111 rfl rfl ?_
                      refine jm_iald F dX9_book_112 la_X9_10 (fun v19 => ?_)
                      exact jm_iret F dX9_book_113 (fun h => h)
                    · refine jm_tsd (tgt := 114) F dX9_book_15 (by
                          have e0 := jm_ne c4 (a := 0) (by decide)
                          have e1 := jm_ne c6 (a := 1) (by decide)
                          have e2 := jm_ne c8 (a := 2) (by decide)
                          have e3 := jm_ne c10 (a := 3) (by decide)
                          have e4 := jm_ne c12 (a := 4) (by decide)
                          have e5 := jm_ne c14 (a := 5) (by decide)
                          have e6 := jm_ne c16 (a := 6) (by decide)
                          have e7 := jm_ne c18 (a := 7) (by decide)
                          omega) (by decide) ?_
                      refine jm_aload_n (i := 0) F dX9_book_114 rfl rfl ?_
                      refine jm_bipush F dX9_book_115 kb_m2 ?_
                      refine jm_callV (As := [.int (-2)]) (st := []) (rv := fun r => some (.int r.1)) (mm := fun r => r.2) F dX9_book_117 qX9_172 rfl lo_X9 rfl (fun r h => kM_no E hE h) rfl (Nat.le_of_ble_eq_true rfl) ⟨Nat.le_of_ble_eq_true rfl, Nat.le_of_ble_eq_true rfl⟩ (fun r20 => ?_)
                      exact jm_iret F dX9_book_120 (fun h => h)
  exact G r h hz
theorem dX9_title_0 : jm_d cX9_title 0 (.aload_n 0) 1 1 := ⟨by decide +kernel, rfl⟩
theorem dX9_title_1 : jm_d cX9_title 1 (.iload_n 1) 1 2 := ⟨by decide +kernel, rfl⟩
theorem dX9_title_2 : jm_d cX9_title 2 (.invokevirtual 289) 3 5 := ⟨by decide +kernel, rfl⟩
theorem dX9_title_5 : jm_b cX9_title 5 (.ifCond .ne) 8 12 := ⟨7, by decide +kernel, rfl, by decide⟩
theorem dX9_title_8 : jm_d cX9_title 8 (.iconst (-1)) 1 9 := ⟨by decide +kernel, rfl⟩
theorem dX9_title_9 : jm_b cX9_title 9 .goto 12 22 := ⟨13, by decide +kernel, rfl, by decide⟩
theorem dX9_title_12 : jm_d cX9_title 12 (.iload_n 2) 1 13 := ⟨by decide +kernel, rfl⟩
theorem dX9_title_13 : jm_b cX9_title 13 (.ifCond .ge) 16 21 := ⟨8, by decide +kernel, rfl, by decide⟩
theorem dX9_title_21 : jm_d cX9_title 21 (.iconst 0) 1 22 := ⟨by decide +kernel, rfl⟩
theorem dX9_title_16 : jm_d cX9_title 16 (.bipush (-4)) 2 18 := ⟨by decide +kernel, rfl⟩
theorem dX9_title_18 : jm_b cX9_title 18 .goto 21 22 := ⟨4, by decide +kernel, rfl, by decide⟩
theorem dX9_title_22 : jm_d cX9_title 22 (.istore_n 3) 1 23 := ⟨by decide +kernel, rfl⟩
theorem dX9_title_23 : jm_d cX9_title 23 (.iload_n 3) 1 24 := ⟨by decide +kernel, rfl⟩
theorem dX9_title_24 : jm_b cX9_title 24 (.ifCond .eq) 27 33 := ⟨9, by decide +kernel, rfl, by decide⟩
theorem dX9_title_33 : jm_d cX9_title 33 (.iload_n 2) 1 34 := ⟨by decide +kernel, rfl⟩
theorem dX9_title_34 : jm_d cX9_title 34 (.aload_n 0) 1 35 := ⟨by decide +kernel, rfl⟩
theorem dX9_title_35 : jm_d cX9_title 35 (.getfield 37) 3 38 := ⟨by decide +kernel, rfl⟩
theorem dX9_title_38 : jm_d cX9_title 38 (.iload_n 1) 1 39 := ⟨by decide +kernel, rfl⟩
theorem dX9_title_39 : jm_d cX9_title 39 (.iaload) 1 40 := ⟨by decide +kernel, rfl⟩
theorem dX9_title_40 : jm_b cX9_title 40 (.if_icmp .ge) 43 56 := ⟨16, by decide +kernel, rfl, by decide⟩
theorem dX9_title_56 : jm_d cX9_title 56 (.bipush (-9)) 2 58 := ⟨by decide +kernel, rfl⟩
theorem dX9_title_58 : jm_d cX9_title 58 (.ireturn) 1 59 := ⟨by decide +kernel, rfl⟩
theorem dX9_title_43 : jm_d cX9_title 43 (.aload_n 0) 1 44 := ⟨by decide +kernel, rfl⟩
theorem dX9_title_44 : jm_d cX9_title 44 (.getfield 40) 3 47 := ⟨by decide +kernel, rfl⟩
theorem dX9_title_47 : jm_d cX9_title 47 (.iconst 4) 1 48 := ⟨by decide +kernel, rfl⟩
theorem dX9_title_48 : jm_d cX9_title 48 (.iload_n 1) 1 49 := ⟨by decide +kernel, rfl⟩
theorem dX9_title_49 : jm_d cX9_title 49 (.imul) 1 50 := ⟨by decide +kernel, rfl⟩
theorem dX9_title_50 : jm_d cX9_title 50 (.iload_n 2) 1 51 := ⟨by decide +kernel, rfl⟩
theorem dX9_title_51 : jm_d cX9_title 51 (.iadd) 1 52 := ⟨by decide +kernel, rfl⟩
theorem dX9_title_52 : jm_d cX9_title 52 (.iaload) 1 53 := ⟨by decide +kernel, rfl⟩
theorem dX9_title_53 : jm_b cX9_title 53 .goto 56 58 := ⟨5, by decide +kernel, rfl, by decide⟩
theorem dX9_title_27 : jm_d cX9_title 27 (.aload_n 0) 1 28 := ⟨by decide +kernel, rfl⟩
theorem dX9_title_28 : jm_d cX9_title 28 (.iload_n 3) 1 29 := ⟨by decide +kernel, rfl⟩
theorem dX9_title_29 : jm_d cX9_title 29 (.invokevirtual 172) 3 32 := ⟨by decide +kernel, rfl⟩
theorem dX9_title_32 : jm_d cX9_title 32 (.ireturn) 1 33 := ⟨by decide +kernel, rfl⟩
set_option maxHeartbeats 4000000 in
set_option maxRecDepth 100000 in
theorem kM_title (E : jm_Ev) (hE : jm_dj E jm_LM) {M : jm_M} {p1 : Int32} {p2 : Int32}  {r : Int32 × jm_M} (h : sM_title M p1 p2 = some r) : jm_Ct E jm_LM yX9_title cX9_title 4 (some .int) 2 43 [.ref (jm_a E 0 0), .int p1, .int p2] M (some (.int r.1)) r.2 := by
  refine jm_enter (lv := [some (.ref (jm_a E 0 0)), some (.int p1), some (.int p2), none]) hE (by decide) (Nat.le_of_ble_eq_true rfl) rfl ?_
  intro z w F hz
  have G : jm_G w 0 [some (.ref (jm_a E 0 0)), some (.int p1), some (.int p2), none] [] M (sM_title M p1 p2) (fun e => z (some (.int e.1)) e.2) := by
    unfold sM_title
    refine jm_aload_n (i := 0) F dX9_title_0 rfl rfl ?_
    refine jm_iload_n (i := 1) F dX9_title_1 rfl rfl ?_
    refine jm_callV (As := [.int p1]) (st := []) (rv := fun r => some (.int r)) (mm := fun _ => M) F dX9_title_2 qX9_289 rfl lo_X9 rfl (fun r h => kM_isBook E hE h) rfl (Nat.le_of_ble_eq_true rfl) ⟨Nat.le_of_ble_eq_true rfl, Nat.le_of_ble_eq_true rfl⟩ (fun r1 => ?_)
    refine jm_bind (pcJ := 22) (lvJ := fun e2 => [some (.ref (jm_a E 0 0)), some (.int p1), some (.int p2), none]) (stJ := fun e2 => [.int e2]) (MJ := fun e2 => M) ?_ (fun e2 => ?_)
    · refine jm_if_ne F dX9_title_5 (fun c3 => ?_) (fun c3 => ?_)
      · refine jm_iconst F dX9_title_8 kc_m1 ?_
        refine jm_goto F dX9_title_9 ?_
        exact jm_weakD F (lv' := [some (.ref (jm_a E 0 0)), some (.int p1), some (.int p2), none]) ⟨rfl, rfl, rfl, trivial⟩ (fun h => h)
      · refine jm_iload_n (i := 2) F dX9_title_12 rfl rfl ?_
        refine jm_if_ge F dX9_title_13 (fun c4 => ?_) (fun c4 => ?_)
        · refine jm_iconst F dX9_title_21 kc_0 ?_
          exact jm_weakD F (lv' := [some (.ref (jm_a E 0 0)), some (.int p1), some (.int p2), none]) ⟨rfl, rfl, rfl, trivial⟩ (fun h => h)
        · refine jm_bipush F dX9_title_16 kb_m4 ?_
          refine jm_goto F dX9_title_18 ?_
          exact jm_weakD F (lv' := [some (.ref (jm_a E 0 0)), some (.int p1), some (.int p2), none]) ⟨rfl, rfl, rfl, trivial⟩ (fun h => h)
    · refine jm_istore_n (i := 3) (lv' := [some (.ref (jm_a E 0 0)), some (.int p1), some (.int p2), some (.int e2)]) F dX9_title_22 rfl (by decide) rfl rfl ?_
      refine jm_iload_n (i := 3) F dX9_title_23 rfl rfl ?_
      refine jm_if_eq F dX9_title_24 (fun c5 => ?_) (fun c5 => ?_)
      · refine jm_iload_n (i := 2) F dX9_title_33 rfl rfl ?_
        refine jm_aload_n (i := 0) F dX9_title_34 rfl rfl ?_
        refine jm_getR F dX9_title_35 fl_X9_37 lo_X9 rfl ?_
        refine jm_iload_n (i := 1) F dX9_title_38 rfl rfl ?_
        refine jm_iald F dX9_title_39 la_X9_10 (fun v6 => ?_)
        refine jm_icmp_ge F dX9_title_40 (fun c7 => ?_) (fun c7 => ?_)
        · refine jm_bipush F dX9_title_56 kb_m9 ?_
          exact jm_iret F dX9_title_58 (fun h => h)
        · refine jm_aload_n (i := 0) F dX9_title_43 rfl rfl ?_
          refine jm_getR F dX9_title_44 fl_X9_40 lo_X9 rfl ?_
          refine jm_iconst F dX9_title_47 kc_4 ?_
          refine jm_iload_n (i := 1) F dX9_title_48 rfl rfl ?_
          refine jm_imul F dX9_title_49 ?_
          refine jm_iload_n (i := 2) F dX9_title_50 rfl rfl ?_
          refine jm_iadd F dX9_title_51 ?_
          refine jm_iald F dX9_title_52 la_X9_11 (fun v8 => ?_)
          refine jm_goto F dX9_title_53 ?_
          exact jm_iret F dX9_title_58 (fun h => h)
      · refine jm_aload_n (i := 0) F dX9_title_27 rfl rfl ?_
        refine jm_iload_n (i := 3) F dX9_title_28 rfl rfl ?_
        refine jm_callV (As := [.int e2]) (st := []) (rv := fun r => some (.int r.1)) (mm := fun r => r.2) F dX9_title_29 qX9_172 rfl lo_X9 rfl (fun r h => kM_no E hE h) rfl (Nat.le_of_ble_eq_true rfl) ⟨Nat.le_of_ble_eq_true rfl, Nat.le_of_ble_eq_true rfl⟩ (fun r9 => ?_)
        exact jm_iret F dX9_title_32 (fun h => h)
  exact G r h hz
theorem dX9_comes_0 : jm_d cX9_comes 0 (.iload_n 1) 1 1 := ⟨by decide +kernel, rfl⟩
theorem dX9_comes_1 : jm_b cX9_comes 1 (.ifCond .lt) 4 12 := ⟨11, by decide +kernel, rfl, by decide⟩
theorem dX9_comes_12 : jm_d cX9_comes 12 (.bipush (-4)) 2 14 := ⟨by decide +kernel, rfl⟩
theorem dX9_comes_14 : jm_b cX9_comes 14 .goto 17 50 := ⟨36, by decide +kernel, rfl, by decide⟩
theorem dX9_comes_4 : jm_d cX9_comes 4 (.iload_n 2) 1 5 := ⟨by decide +kernel, rfl⟩
theorem dX9_comes_5 : jm_b cX9_comes 5 (.ifCond .lt) 8 12 := ⟨7, by decide +kernel, rfl, by decide⟩
theorem dX9_comes_8 : jm_d cX9_comes 8 (.iload_n 3) 1 9 := ⟨by decide +kernel, rfl⟩
theorem dX9_comes_9 : jm_b cX9_comes 9 (.ifCond .ge) 12 17 := ⟨8, by decide +kernel, rfl, by decide⟩
theorem dX9_comes_17 : jm_d cX9_comes 17 (.iload_n 1) 1 18 := ⟨by decide +kernel, rfl⟩
theorem dX9_comes_18 : jm_d cX9_comes 18 (.bipush 99) 2 20 := ⟨by decide +kernel, rfl⟩
theorem dX9_comes_20 : jm_b cX9_comes 20 (.if_icmp .gt) 23 44 := ⟨24, by decide +kernel, rfl, by decide⟩
theorem dX9_comes_44 : jm_d cX9_comes 44 (.bipush (-6)) 2 46 := ⟨by decide +kernel, rfl⟩
theorem dX9_comes_46 : jm_b cX9_comes 46 .goto 49 50 := ⟨4, by decide +kernel, rfl, by decide⟩
theorem dX9_comes_23 : jm_d cX9_comes 23 (.iload_n 2) 1 24 := ⟨by decide +kernel, rfl⟩
theorem dX9_comes_24 : jm_d cX9_comes 24 (.bipush 9) 2 26 := ⟨by decide +kernel, rfl⟩
theorem dX9_comes_26 : jm_b cX9_comes 26 (.if_icmp .gt) 29 44 := ⟨18, by decide +kernel, rfl, by decide⟩
theorem dX9_comes_29 : jm_d cX9_comes 29 (.iload_n 3) 1 30 := ⟨by decide +kernel, rfl⟩
theorem dX9_comes_30 : jm_d cX9_comes 30 (.bipush 99) 2 32 := ⟨by decide +kernel, rfl⟩
theorem dX9_comes_32 : jm_b cX9_comes 32 (.if_icmp .gt) 35 44 := ⟨12, by decide +kernel, rfl, by decide⟩
theorem dX9_comes_35 : jm_d cX9_comes 35 (.aload_n 0) 1 36 := ⟨by decide +kernel, rfl⟩
theorem dX9_comes_36 : jm_d cX9_comes 36 (.getfield 91) 3 39 := ⟨by decide +kernel, rfl⟩
theorem dX9_comes_39 : jm_d cX9_comes 39 (.bipush 6) 2 41 := ⟨by decide +kernel, rfl⟩
theorem dX9_comes_41 : jm_b cX9_comes 41 (.if_icmp .ne) 44 49 := ⟨8, by decide +kernel, rfl, by decide⟩
theorem dX9_comes_49 : jm_d cX9_comes 49 (.iconst 0) 1 50 := ⟨by decide +kernel, rfl⟩
theorem dX9_comes_50 : jm_d cX9_comes 50 (.istore 4) 2 52 := ⟨by decide +kernel, rfl⟩
theorem dX9_comes_52 : jm_d cX9_comes 52 (.iload 4) 2 54 := ⟨by decide +kernel, rfl⟩
theorem dX9_comes_54 : jm_b cX9_comes 54 (.ifCond .eq) 57 64 := ⟨10, by decide +kernel, rfl, by decide⟩
theorem dX9_comes_64 : jm_d cX9_comes 64 (.aload_n 0) 1 65 := ⟨by decide +kernel, rfl⟩
theorem dX9_comes_65 : jm_d cX9_comes 65 (.iload_n 1) 1 66 := ⟨by decide +kernel, rfl⟩
theorem dX9_comes_66 : jm_d cX9_comes 66 (.iload_n 2) 1 67 := ⟨by decide +kernel, rfl⟩
theorem dX9_comes_67 : jm_d cX9_comes 67 (.iload_n 3) 1 68 := ⟨by decide +kernel, rfl⟩
theorem dX9_comes_68 : jm_d cX9_comes 68 (.invokevirtual 213) 3 71 := ⟨by decide +kernel, rfl⟩
theorem dX9_comes_71 : jm_d cX9_comes 71 (.aload_n 0) 1 72 := ⟨by decide +kernel, rfl⟩
theorem dX9_comes_72 : jm_d cX9_comes 72 (.iconst 0) 1 73 := ⟨by decide +kernel, rfl⟩
theorem dX9_comes_73 : jm_d cX9_comes 73 (.putfield 260) 3 76 := ⟨by decide +kernel, rfl⟩
theorem dX9_comes_76 : jm_d cX9_comes 76 (.aload_n 0) 1 77 := ⟨by decide +kernel, rfl⟩
theorem dX9_comes_77 : jm_d cX9_comes 77 (.getfield 91) 3 80 := ⟨by decide +kernel, rfl⟩
theorem dX9_comes_80 : jm_d cX9_comes 80 (.iconst 1) 1 81 := ⟨by decide +kernel, rfl⟩
theorem dX9_comes_81 : jm_d cX9_comes 81 (.isub) 1 82 := ⟨by decide +kernel, rfl⟩
theorem dX9_comes_82 : jm_d cX9_comes 82 (.ireturn) 1 83 := ⟨by decide +kernel, rfl⟩
theorem dX9_comes_57 : jm_d cX9_comes 57 (.aload_n 0) 1 58 := ⟨by decide +kernel, rfl⟩
theorem dX9_comes_58 : jm_d cX9_comes 58 (.iload 4) 2 60 := ⟨by decide +kernel, rfl⟩
theorem dX9_comes_60 : jm_d cX9_comes 60 (.invokevirtual 172) 3 63 := ⟨by decide +kernel, rfl⟩
theorem dX9_comes_63 : jm_d cX9_comes 63 (.ireturn) 1 64 := ⟨by decide +kernel, rfl⟩
set_option maxHeartbeats 4000000 in
set_option maxRecDepth 100000 in
theorem kM_comes (E : jm_Ev) (hE : jm_dj E jm_LM) {M : jm_M} {p1 : Int32} {p2 : Int32} {p3 : Int32}  {r : Int32 × jm_M} (h : sM_comes M p1 p2 p3 = some r) : jm_Ct E jm_LM yX9_comes cX9_comes 5 (some .int) 1 23 [.ref (jm_a E 0 0), .int p1, .int p2, .int p3] M (some (.int r.1)) r.2 := by
  refine jm_enter (lv := [some (.ref (jm_a E 0 0)), some (.int p1), some (.int p2), some (.int p3), none]) hE (by decide) (Nat.le_of_ble_eq_true rfl) rfl ?_
  intro z w F hz
  have G : jm_G w 0 [some (.ref (jm_a E 0 0)), some (.int p1), some (.int p2), some (.int p3), none] [] M (sM_comes M p1 p2 p3) (fun e => z (some (.int e.1)) e.2) := by
    unfold sM_comes
    refine jm_iload_n (i := 1) F dX9_comes_0 rfl rfl ?_
    refine jm_bind (pcJ := 50) (lvJ := fun e1 => [some (.ref (jm_a E 0 0)), some (.int p1), some (.int p2), some (.int p3), none]) (stJ := fun e1 => [.int e1]) (MJ := fun e1 => M) ?_ (fun e1 => ?_)
    · refine jm_if_lt F dX9_comes_1 (fun c2 => ?_) (fun c2 => ?_)
      · refine jm_bipush F dX9_comes_12 kb_m4 ?_
        refine jm_goto F dX9_comes_14 ?_
        exact jm_weakD F (lv' := [some (.ref (jm_a E 0 0)), some (.int p1), some (.int p2), some (.int p3), none]) ⟨rfl, rfl, rfl, rfl, trivial⟩ (fun h => h)
      · refine jm_iload_n (i := 2) F dX9_comes_4 rfl rfl ?_
        refine jm_if_lt F dX9_comes_5 (fun c3 => ?_) (fun c3 => ?_)
        · refine jm_bipush F dX9_comes_12 kb_m4 ?_
          refine jm_goto F dX9_comes_14 ?_
          exact jm_weakD F (lv' := [some (.ref (jm_a E 0 0)), some (.int p1), some (.int p2), some (.int p3), none]) ⟨rfl, rfl, rfl, rfl, trivial⟩ (fun h => h)
        · refine jm_iload_n (i := 3) F dX9_comes_8 rfl rfl ?_
          refine jm_if_ge F dX9_comes_9 (fun c4 => ?_) (fun c4 => ?_)
          · refine jm_iload_n (i := 1) F dX9_comes_17 rfl rfl ?_
            refine jm_bipush F dX9_comes_18 kb_99 ?_
            refine jm_icmp_gt F dX9_comes_20 (fun c5 => ?_) (fun c5 => ?_)
            · refine jm_bipush F dX9_comes_44 kb_m6 ?_
              refine jm_goto F dX9_comes_46 ?_
              exact jm_weakD F (lv' := [some (.ref (jm_a E 0 0)), some (.int p1), some (.int p2), some (.int p3), none]) ⟨rfl, rfl, rfl, rfl, trivial⟩ (fun h => h)
            · refine jm_iload_n (i := 2) F dX9_comes_23 rfl rfl ?_
              refine jm_bipush F dX9_comes_24 kb_9 ?_
              refine jm_icmp_gt F dX9_comes_26 (fun c6 => ?_) (fun c6 => ?_)
              · refine jm_bipush F dX9_comes_44 kb_m6 ?_
                refine jm_goto F dX9_comes_46 ?_
                exact jm_weakD F (lv' := [some (.ref (jm_a E 0 0)), some (.int p1), some (.int p2), some (.int p3), none]) ⟨rfl, rfl, rfl, rfl, trivial⟩ (fun h => h)
              · refine jm_iload_n (i := 3) F dX9_comes_29 rfl rfl ?_
                refine jm_bipush F dX9_comes_30 kb_99 ?_
                refine jm_icmp_gt F dX9_comes_32 (fun c7 => ?_) (fun c7 => ?_)
                · refine jm_bipush F dX9_comes_44 kb_m6 ?_
                  refine jm_goto F dX9_comes_46 ?_
                  exact jm_weakD F (lv' := [some (.ref (jm_a E 0 0)), some (.int p1), some (.int p2), some (.int p3), none]) ⟨rfl, rfl, rfl, rfl, trivial⟩ (fun h => h)
                · refine jm_aload_n (i := 0) F dX9_comes_35 rfl rfl ?_
                  refine jm_getI F dX9_comes_36 fl_X9_91 lo_X9 rfl ?_
                  refine jm_bipush F dX9_comes_39 kb_6 ?_
                  refine jm_icmp_ne F dX9_comes_41 (fun c8 => ?_) (fun c8 => ?_)
                  · refine jm_bipush F dX9_comes_44 kb_m6 ?_
                    refine jm_goto F dX9_comes_46 ?_
                    exact jm_weakD F (lv' := [some (.ref (jm_a E 0 0)), some (.int p1), some (.int p2), some (.int p3), none]) ⟨rfl, rfl, rfl, rfl, trivial⟩ (fun h => h)
                  · refine jm_iconst F dX9_comes_49 kc_0 ?_
                    exact jm_weakD F (lv' := [some (.ref (jm_a E 0 0)), some (.int p1), some (.int p2), some (.int p3), none]) ⟨rfl, rfl, rfl, rfl, trivial⟩ (fun h => h)
          · refine jm_bipush F dX9_comes_12 kb_m4 ?_
            refine jm_goto F dX9_comes_14 ?_
            exact jm_weakD F (lv' := [some (.ref (jm_a E 0 0)), some (.int p1), some (.int p2), some (.int p3), none]) ⟨rfl, rfl, rfl, rfl, trivial⟩ (fun h => h)
    · refine jm_istore (i := 4) (lv' := [some (.ref (jm_a E 0 0)), some (.int p1), some (.int p2), some (.int p3), some (.int e1)]) F dX9_comes_50 (by decide) rfl rfl ?_
      refine jm_iload F dX9_comes_52 rfl ?_
      refine jm_if_eq F dX9_comes_54 (fun c9 => ?_) (fun c9 => ?_)
      · refine jm_aload_n (i := 0) F dX9_comes_64 rfl rfl ?_
        refine jm_iload_n (i := 1) F dX9_comes_65 rfl rfl ?_
        refine jm_iload_n (i := 2) F dX9_comes_66 rfl rfl ?_
        refine jm_iload_n (i := 3) F dX9_comes_67 rfl rfl ?_
        refine jm_callV (As := [.int p1, .int p2, .int p3]) (st := []) (rv := fun _ => none) (mm := fun r => r) F dX9_comes_68 qX9_213 rfl lo_X9 rfl (fun r h => kM_isMore E hE h) rfl (Nat.le_of_ble_eq_true rfl) ⟨Nat.le_of_ble_eq_true rfl, Nat.le_of_ble_eq_true rfl⟩ (fun r10 => ?_)
        refine jm_aload_n (i := 0) F dX9_comes_71 rfl rfl ?_
        refine jm_iconst F dX9_comes_72 kc_0 ?_
        refine jm_putI F dX9_comes_73 fp_X9_260 lo_X9 rfl (fun M11 => ?_)
        refine jm_aload_n (i := 0) F dX9_comes_76 rfl rfl ?_
        refine jm_getI F dX9_comes_77 fl_X9_91 lo_X9 rfl ?_
        refine jm_iconst F dX9_comes_80 kc_1 ?_
        refine jm_isub F dX9_comes_81 ?_
        exact jm_iret F dX9_comes_82 (fun h => h)
      · refine jm_aload_n (i := 0) F dX9_comes_57 rfl rfl ?_
        refine jm_iload F dX9_comes_58 rfl ?_
        refine jm_callV (As := [.int e1]) (st := []) (rv := fun r => some (.int r.1)) (mm := fun r => r.2) F dX9_comes_60 qX9_172 rfl lo_X9 rfl (fun r h => kM_no E hE h) rfl (Nat.le_of_ble_eq_true rfl) ⟨Nat.le_of_ble_eq_true rfl, Nat.le_of_ble_eq_true rfl⟩ (fun r12 => ?_)
        exact jm_iret F dX9_comes_63 (fun h => h)
  exact G r h hz
theorem dX9_isLetterTitle_0 : jm_d cX9_isLetterTitle 0 (.iconst 0) 1 1 := ⟨by decide +kernel, rfl⟩
theorem dX9_isLetterTitle_1 : jm_d cX9_isLetterTitle 1 (.istore_n 2) 1 2 := ⟨by decide +kernel, rfl⟩
theorem dX9_isLetterTitle_2 : jm_d cX9_isLetterTitle 2 (.iload_n 2) 1 3 := ⟨by decide +kernel, rfl⟩
theorem dX9_isLetterTitle_3 : jm_d cX9_isLetterTitle 3 (.aload_n 0) 1 4 := ⟨by decide +kernel, rfl⟩
theorem dX9_isLetterTitle_4 : jm_d cX9_isLetterTitle 4 (.getfield 106) 3 7 := ⟨by decide +kernel, rfl⟩
theorem dX9_isLetterTitle_7 : jm_b cX9_isLetterTitle 7 (.if_icmp .ge) 10 40 := ⟨33, by decide +kernel, rfl, by decide⟩
theorem dX9_isLetterTitle_10 : jm_d cX9_isLetterTitle 10 (.aload_n 0) 1 11 := ⟨by decide +kernel, rfl⟩
theorem dX9_isLetterTitle_11 : jm_d cX9_isLetterTitle 11 (.getfield 37) 3 14 := ⟨by decide +kernel, rfl⟩
theorem dX9_isLetterTitle_14 : jm_d cX9_isLetterTitle 14 (.iload_n 2) 1 15 := ⟨by decide +kernel, rfl⟩
theorem dX9_isLetterTitle_15 : jm_d cX9_isLetterTitle 15 (.iaload) 1 16 := ⟨by decide +kernel, rfl⟩
theorem dX9_isLetterTitle_16 : jm_d cX9_isLetterTitle 16 (.iconst 1) 1 17 := ⟨by decide +kernel, rfl⟩
theorem dX9_isLetterTitle_17 : jm_b cX9_isLetterTitle 17 (.if_icmp .ne) 20 34 := ⟨17, by decide +kernel, rfl, by decide⟩
theorem dX9_isLetterTitle_20 : jm_d cX9_isLetterTitle 20 (.aload_n 0) 1 21 := ⟨by decide +kernel, rfl⟩
theorem dX9_isLetterTitle_21 : jm_d cX9_isLetterTitle 21 (.getfield 40) 3 24 := ⟨by decide +kernel, rfl⟩
theorem dX9_isLetterTitle_24 : jm_d cX9_isLetterTitle 24 (.iconst 4) 1 25 := ⟨by decide +kernel, rfl⟩
theorem dX9_isLetterTitle_25 : jm_d cX9_isLetterTitle 25 (.iload_n 2) 1 26 := ⟨by decide +kernel, rfl⟩
theorem dX9_isLetterTitle_26 : jm_d cX9_isLetterTitle 26 (.imul) 1 27 := ⟨by decide +kernel, rfl⟩
theorem dX9_isLetterTitle_27 : jm_d cX9_isLetterTitle 27 (.iaload) 1 28 := ⟨by decide +kernel, rfl⟩
theorem dX9_isLetterTitle_28 : jm_d cX9_isLetterTitle 28 (.iload_n 1) 1 29 := ⟨by decide +kernel, rfl⟩
theorem dX9_isLetterTitle_29 : jm_b cX9_isLetterTitle 29 (.if_icmp .ne) 32 34 := ⟨5, by decide +kernel, rfl, by decide⟩
theorem dX9_isLetterTitle_32 : jm_d cX9_isLetterTitle 32 (.iconst 1) 1 33 := ⟨by decide +kernel, rfl⟩
theorem dX9_isLetterTitle_33 : jm_d cX9_isLetterTitle 33 (.ireturn) 1 34 := ⟨by decide +kernel, rfl⟩
theorem dX9_isLetterTitle_34 : jm_d cX9_isLetterTitle 34 (.iinc 2 1) 3 37 := ⟨by decide +kernel, rfl⟩
theorem dX9_isLetterTitle_37 : jm_b cX9_isLetterTitle 37 .goto 40 2 := ⟨(-35), by decide +kernel, rfl, by decide⟩
theorem dX9_isLetterTitle_40 : jm_d cX9_isLetterTitle 40 (.iconst 0) 1 41 := ⟨by decide +kernel, rfl⟩
theorem dX9_isLetterTitle_41 : jm_d cX9_isLetterTitle 41 (.ireturn) 1 42 := ⟨by decide +kernel, rfl⟩
set_option maxHeartbeats 4000000 in
set_option maxRecDepth 100000 in
theorem kM_isLetterTitle (E : jm_Ev) (hE : jm_dj E jm_LM) {M : jm_M} {p1 : Int32}  {r : Int32} (h : sM_isLetterTitle M p1 = some r) : jm_Ct E jm_LM yX9_isLetterTitle cX9_isLetterTitle 3 (some .boolean) 0 0 [.ref (jm_a E 0 0), .int p1] M (some (.int r)) M := by
  refine jm_enter (lv := [some (.ref (jm_a E 0 0)), some (.int p1), none]) hE (by decide) (Nat.le_of_ble_eq_true rfl) rfl ?_
  intro z w F hz
  have G : jm_G w 0 [some (.ref (jm_a E 0 0)), some (.int p1), none] [] M (sM_isLetterTitle M p1) (fun e => z (some (.int e)) M) := by
    unfold sM_isLetterTitle
    refine jm_iconst F dX9_isLetterTitle_0 kc_0 ?_
    refine jm_istore_n (i := 2) (lv' := [some (.ref (jm_a E 0 0)), some (.int p1), some (.int 0)]) F dX9_isLetterTitle_1 rfl (by decide) rfl rfl ?_
    refine jm_bindS (pcJ := 40) (lvJ := fun e7 => [none, none, none]) (stJ := fun _ => []) (MJ := fun e7 => M) ?_ (fun e7 => ?_)
    · refine jm_weak F (lv' := [some (.ref (jm_a E 0 0)), some (.int p1), some (.int 0)]) ⟨rfl, rfl, rfl, trivial⟩ ?_
      refine jm_loopR (lvH := fun s1 => [some (.ref (jm_a E 0 0)), some (.int p1), some (.int s1)]) (MH := fun s1 => M) (fun s1 => ?_) jm_N 0
      unfold sM_isLetterTitle_L2
      refine jm_iload_n (i := 2) F dX9_isLetterTitle_2 rfl rfl ?_
      refine jm_aload_n (i := 0) F dX9_isLetterTitle_3 rfl rfl ?_
      refine jm_getI F dX9_isLetterTitle_4 fl_X9_106 lo_X9 rfl ?_
      refine jm_icmp_ge F dX9_isLetterTitle_7 (fun c2 => ?_) (fun c2 => ?_)
      · exact jm_weakD F (lv' := [none, none, none]) trivial (fun h => h)
      · refine jm_aload_n (i := 0) F dX9_isLetterTitle_10 rfl rfl ?_
        refine jm_getR F dX9_isLetterTitle_11 fl_X9_37 lo_X9 rfl ?_
        refine jm_iload_n (i := 2) F dX9_isLetterTitle_14 rfl rfl ?_
        refine jm_iald F dX9_isLetterTitle_15 la_X9_10 (fun v3 => ?_)
        refine jm_iconst F dX9_isLetterTitle_16 kc_1 ?_
        refine jm_icmp_ne F dX9_isLetterTitle_17 (fun c4 => ?_) (fun c4 => ?_)
        · refine jm_aload_n (i := 0) F dX9_isLetterTitle_20 rfl rfl ?_
          refine jm_getR F dX9_isLetterTitle_21 fl_X9_40 lo_X9 rfl ?_
          refine jm_iconst F dX9_isLetterTitle_24 kc_4 ?_
          refine jm_iload_n (i := 2) F dX9_isLetterTitle_25 rfl rfl ?_
          refine jm_imul F dX9_isLetterTitle_26 ?_
          refine jm_iald F dX9_isLetterTitle_27 la_X9_11 (fun v5 => ?_)
          refine jm_iload_n (i := 1) F dX9_isLetterTitle_28 rfl rfl ?_
          refine jm_icmp_ne F dX9_isLetterTitle_29 (fun c6 => ?_) (fun c6 => ?_)
          · refine jm_iconst F dX9_isLetterTitle_32 kc_1 ?_
            exact jm_zret F dX9_isLetterTitle_33 (Or.inr rfl) (fun h => h)
          · refine jm_iinc (i := 2) (lv' := [some (.ref (jm_a E 0 0)), some (.int p1), some (.int (s1 + 1))]) F dX9_isLetterTitle_34 kc_1 rfl (by decide) rfl rfl ?_
            refine jm_goto F dX9_isLetterTitle_37 ?_
            exact jm_weakD F (lv' := [some (.ref (jm_a E 0 0)), some (.int p1), some (.int (s1 + 1))]) ⟨rfl, rfl, rfl, trivial⟩ (fun h => h)
        · refine jm_iinc (i := 2) (lv' := [some (.ref (jm_a E 0 0)), some (.int p1), some (.int (s1 + 1))]) F dX9_isLetterTitle_34 kc_1 rfl (by decide) rfl rfl ?_
          refine jm_goto F dX9_isLetterTitle_37 ?_
          exact jm_weakD F (lv' := [some (.ref (jm_a E 0 0)), some (.int p1), some (.int (s1 + 1))]) ⟨rfl, rfl, rfl, trivial⟩ (fun h => h)
    · refine jm_iconst F dX9_isLetterTitle_40 kc_0 ?_
      exact jm_zret F dX9_isLetterTitle_41 (Or.inl rfl) (fun h => h)
  exact G r h hz
theorem dX9_brings_0 : jm_d cX9_brings 0 (.iload_n 1) 1 1 := ⟨by decide +kernel, rfl⟩
theorem dX9_brings_1 : jm_d cX9_brings 1 (.iconst 0) 1 2 := ⟨by decide +kernel, rfl⟩
theorem dX9_brings_2 : jm_d cX9_brings 2 (.bipush 7) 2 4 := ⟨by decide +kernel, rfl⟩
theorem dX9_brings_4 : jm_d cX9_brings 4 (.invokestatic 98) 3 7 := ⟨by decide +kernel, rfl⟩
theorem dX9_brings_7 : jm_b cX9_brings 7 (.ifCond .ne) 10 15 := ⟨8, by decide +kernel, rfl, by decide⟩
theorem dX9_brings_10 : jm_d cX9_brings 10 (.bipush (-2)) 2 12 := ⟨by decide +kernel, rfl⟩
theorem dX9_brings_12 : jm_b cX9_brings 12 .goto 15 69 := ⟨57, by decide +kernel, rfl, by decide⟩
theorem dX9_brings_15 : jm_d cX9_brings 15 (.iload_n 2) 1 16 := ⟨by decide +kernel, rfl⟩
theorem dX9_brings_16 : jm_b cX9_brings 16 (.ifCond .lt) 19 24 := ⟨8, by decide +kernel, rfl, by decide⟩
theorem dX9_brings_24 : jm_d cX9_brings 24 (.bipush (-4)) 2 26 := ⟨by decide +kernel, rfl⟩
theorem dX9_brings_26 : jm_b cX9_brings 26 .goto 29 69 := ⟨43, by decide +kernel, rfl, by decide⟩
theorem dX9_brings_19 : jm_d cX9_brings 19 (.iload 4) 2 21 := ⟨by decide +kernel, rfl⟩
theorem dX9_brings_21 : jm_b cX9_brings 21 (.ifCond .ge) 24 29 := ⟨8, by decide +kernel, rfl, by decide⟩
theorem dX9_brings_29 : jm_d cX9_brings 29 (.iload_n 2) 1 30 := ⟨by decide +kernel, rfl⟩
theorem dX9_brings_30 : jm_d cX9_brings 30 (.bipush 9) 2 32 := ⟨by decide +kernel, rfl⟩
theorem dX9_brings_32 : jm_b cX9_brings 32 (.if_icmp .gt) 35 51 := ⟨19, by decide +kernel, rfl, by decide⟩
theorem dX9_brings_51 : jm_d cX9_brings 51 (.bipush (-6)) 2 53 := ⟨by decide +kernel, rfl⟩
theorem dX9_brings_53 : jm_b cX9_brings 53 .goto 56 69 := ⟨16, by decide +kernel, rfl, by decide⟩
theorem dX9_brings_35 : jm_d cX9_brings 35 (.iload 4) 2 37 := ⟨by decide +kernel, rfl⟩
theorem dX9_brings_37 : jm_d cX9_brings 37 (.bipush 25) 2 39 := ⟨by decide +kernel, rfl⟩
theorem dX9_brings_39 : jm_b cX9_brings 39 (.if_icmp .gt) 42 51 := ⟨12, by decide +kernel, rfl, by decide⟩
theorem dX9_brings_42 : jm_d cX9_brings 42 (.aload_n 0) 1 43 := ⟨by decide +kernel, rfl⟩
theorem dX9_brings_43 : jm_d cX9_brings 43 (.getfield 106) 3 46 := ⟨by decide +kernel, rfl⟩
theorem dX9_brings_46 : jm_d cX9_brings 46 (.bipush 10) 2 48 := ⟨by decide +kernel, rfl⟩
theorem dX9_brings_48 : jm_b cX9_brings 48 (.if_icmp .ne) 51 56 := ⟨8, by decide +kernel, rfl, by decide⟩
theorem dX9_brings_56 : jm_d cX9_brings 56 (.aload_n 0) 1 57 := ⟨by decide +kernel, rfl⟩
theorem dX9_brings_57 : jm_d cX9_brings 57 (.iload_n 3) 1 58 := ⟨by decide +kernel, rfl⟩
theorem dX9_brings_58 : jm_d cX9_brings 58 (.invokevirtual 217) 3 61 := ⟨by decide +kernel, rfl⟩
theorem dX9_brings_61 : jm_b cX9_brings 61 (.ifCond .ne) 64 68 := ⟨7, by decide +kernel, rfl, by decide⟩
theorem dX9_brings_64 : jm_d cX9_brings 64 (.iconst (-1)) 1 65 := ⟨by decide +kernel, rfl⟩
theorem dX9_brings_65 : jm_b cX9_brings 65 .goto 68 69 := ⟨4, by decide +kernel, rfl, by decide⟩
theorem dX9_brings_68 : jm_d cX9_brings 68 (.iconst 0) 1 69 := ⟨by decide +kernel, rfl⟩
theorem dX9_brings_69 : jm_d cX9_brings 69 (.istore 5) 2 71 := ⟨by decide +kernel, rfl⟩
theorem dX9_brings_71 : jm_d cX9_brings 71 (.iload 5) 2 73 := ⟨by decide +kernel, rfl⟩
theorem dX9_brings_73 : jm_b cX9_brings 73 (.ifCond .ne) 76 89 := ⟨16, by decide +kernel, rfl, by decide⟩
theorem dX9_brings_76 : jm_d cX9_brings 76 (.aload_n 0) 1 77 := ⟨by decide +kernel, rfl⟩
theorem dX9_brings_77 : jm_d cX9_brings 77 (.iload 4) 2 79 := ⟨by decide +kernel, rfl⟩
theorem dX9_brings_79 : jm_d cX9_brings 79 (.invokevirtual 295) 3 82 := ⟨by decide +kernel, rfl⟩
theorem dX9_brings_82 : jm_b cX9_brings 82 (.ifCond .eq) 85 89 := ⟨7, by decide +kernel, rfl, by decide⟩
theorem dX9_brings_85 : jm_d cX9_brings 85 (.bipush (-3)) 2 87 := ⟨by decide +kernel, rfl⟩
theorem dX9_brings_87 : jm_d cX9_brings 87 (.istore 5) 2 89 := ⟨by decide +kernel, rfl⟩
theorem dX9_brings_89 : jm_d cX9_brings 89 (.iload 5) 2 91 := ⟨by decide +kernel, rfl⟩
theorem dX9_brings_91 : jm_b cX9_brings 91 (.ifCond .eq) 94 101 := ⟨10, by decide +kernel, rfl, by decide⟩
theorem dX9_brings_101 : jm_d cX9_brings 101 (.aload_n 0) 1 102 := ⟨by decide +kernel, rfl⟩
theorem dX9_brings_102 : jm_d cX9_brings 102 (.iload_n 1) 1 103 := ⟨by decide +kernel, rfl⟩
theorem dX9_brings_103 : jm_d cX9_brings 103 (.iload_n 2) 1 104 := ⟨by decide +kernel, rfl⟩
theorem dX9_brings_104 : jm_d cX9_brings 104 (.iload_n 3) 1 105 := ⟨by decide +kernel, rfl⟩
theorem dX9_brings_105 : jm_d cX9_brings 105 (.invokevirtual 223) 3 108 := ⟨by decide +kernel, rfl⟩
theorem dX9_brings_108 : jm_d cX9_brings 108 (.aload_n 0) 1 109 := ⟨by decide +kernel, rfl⟩
theorem dX9_brings_109 : jm_d cX9_brings 109 (.iload 4) 2 111 := ⟨by decide +kernel, rfl⟩
theorem dX9_brings_111 : jm_d cX9_brings 111 (.invokevirtual 226) 3 114 := ⟨by decide +kernel, rfl⟩
theorem dX9_brings_114 : jm_d cX9_brings 114 (.aload_n 0) 1 115 := ⟨by decide +kernel, rfl⟩
theorem dX9_brings_115 : jm_d cX9_brings 115 (.iconst 0) 1 116 := ⟨by decide +kernel, rfl⟩
theorem dX9_brings_116 : jm_d cX9_brings 116 (.putfield 260) 3 119 := ⟨by decide +kernel, rfl⟩
theorem dX9_brings_119 : jm_d cX9_brings 119 (.aload_n 0) 1 120 := ⟨by decide +kernel, rfl⟩
theorem dX9_brings_120 : jm_d cX9_brings 120 (.getfield 106) 3 123 := ⟨by decide +kernel, rfl⟩
theorem dX9_brings_123 : jm_d cX9_brings 123 (.iconst 1) 1 124 := ⟨by decide +kernel, rfl⟩
theorem dX9_brings_124 : jm_d cX9_brings 124 (.isub) 1 125 := ⟨by decide +kernel, rfl⟩
theorem dX9_brings_125 : jm_d cX9_brings 125 (.ireturn) 1 126 := ⟨by decide +kernel, rfl⟩
theorem dX9_brings_94 : jm_d cX9_brings 94 (.aload_n 0) 1 95 := ⟨by decide +kernel, rfl⟩
theorem dX9_brings_95 : jm_d cX9_brings 95 (.iload 5) 2 97 := ⟨by decide +kernel, rfl⟩
theorem dX9_brings_97 : jm_d cX9_brings 97 (.invokevirtual 172) 3 100 := ⟨by decide +kernel, rfl⟩
theorem dX9_brings_100 : jm_d cX9_brings 100 (.ireturn) 1 101 := ⟨by decide +kernel, rfl⟩
set_option maxHeartbeats 4000000 in
set_option maxRecDepth 100000 in
theorem kM_brings (E : jm_Ev) (hE : jm_dj E jm_LM) {M : jm_M} {p1 : Int32} {p2 : Int32} {p3 : Int32} {p4 : Int32}  {r : Int32 × jm_M} (h : sM_brings M p1 p2 p3 p4 = some r) : jm_Ct E jm_LM yX9_brings cX9_brings 6 (some .int) 3 64 [.ref (jm_a E 0 0), .int p1, .int p2, .int p3, .int p4] M (some (.int r.1)) r.2 := by
  refine jm_enter (lv := [some (.ref (jm_a E 0 0)), some (.int p1), some (.int p2), some (.int p3), some (.int p4), none]) hE (by decide) (Nat.le_of_ble_eq_true rfl) rfl ?_
  intro z w F hz
  have G : jm_G w 0 [some (.ref (jm_a E 0 0)), some (.int p1), some (.int p2), some (.int p3), some (.int p4), none] [] M (sM_brings M p1 p2 p3 p4) (fun e => z (some (.int e.1)) e.2) := by
    unfold sM_brings
    refine jm_iload_n (i := 1) F dX9_brings_0 rfl rfl ?_
    refine jm_iconst F dX9_brings_1 kc_0 ?_
    refine jm_bipush F dX9_brings_2 kb_7 ?_
    refine jm_callS (As := [.int p1, .int 0, .int 7]) (st := []) (rv := fun r => some (.int r)) (mm := fun _ => M) F dX9_brings_4 qX9_98 rfl (fun r h => kM_isIn E hE h) rfl (Nat.le_of_ble_eq_true rfl) ⟨Nat.le_of_ble_eq_true rfl, Nat.le_of_ble_eq_true rfl⟩ (fun r1 => ?_)
    refine jm_bind (pcJ := 69) (lvJ := fun e2 => [some (.ref (jm_a E 0 0)), some (.int p1), some (.int p2), some (.int p3), some (.int p4), none]) (stJ := fun e2 => [.int e2]) (MJ := fun e2 => M) ?_ (fun e2 => ?_)
    · refine jm_if_ne F dX9_brings_7 (fun c3 => ?_) (fun c3 => ?_)
      · refine jm_bipush F dX9_brings_10 kb_m2 ?_
        refine jm_goto F dX9_brings_12 ?_
        exact jm_weakD F (lv' := [some (.ref (jm_a E 0 0)), some (.int p1), some (.int p2), some (.int p3), some (.int p4), none]) ⟨rfl, rfl, rfl, rfl, rfl, trivial⟩ (fun h => h)
      · refine jm_iload_n (i := 2) F dX9_brings_15 rfl rfl ?_
        refine jm_if_lt F dX9_brings_16 (fun c4 => ?_) (fun c4 => ?_)
        · refine jm_bipush F dX9_brings_24 kb_m4 ?_
          refine jm_goto F dX9_brings_26 ?_
          exact jm_weakD F (lv' := [some (.ref (jm_a E 0 0)), some (.int p1), some (.int p2), some (.int p3), some (.int p4), none]) ⟨rfl, rfl, rfl, rfl, rfl, trivial⟩ (fun h => h)
        · refine jm_iload F dX9_brings_19 rfl ?_
          refine jm_if_ge F dX9_brings_21 (fun c5 => ?_) (fun c5 => ?_)
          · refine jm_iload_n (i := 2) F dX9_brings_29 rfl rfl ?_
            refine jm_bipush F dX9_brings_30 kb_9 ?_
            refine jm_icmp_gt F dX9_brings_32 (fun c6 => ?_) (fun c6 => ?_)
            · refine jm_bipush F dX9_brings_51 kb_m6 ?_
              refine jm_goto F dX9_brings_53 ?_
              exact jm_weakD F (lv' := [some (.ref (jm_a E 0 0)), some (.int p1), some (.int p2), some (.int p3), some (.int p4), none]) ⟨rfl, rfl, rfl, rfl, rfl, trivial⟩ (fun h => h)
            · refine jm_iload F dX9_brings_35 rfl ?_
              refine jm_bipush F dX9_brings_37 kb_25 ?_
              refine jm_icmp_gt F dX9_brings_39 (fun c7 => ?_) (fun c7 => ?_)
              · refine jm_bipush F dX9_brings_51 kb_m6 ?_
                refine jm_goto F dX9_brings_53 ?_
                exact jm_weakD F (lv' := [some (.ref (jm_a E 0 0)), some (.int p1), some (.int p2), some (.int p3), some (.int p4), none]) ⟨rfl, rfl, rfl, rfl, rfl, trivial⟩ (fun h => h)
              · refine jm_aload_n (i := 0) F dX9_brings_42 rfl rfl ?_
                refine jm_getI F dX9_brings_43 fl_X9_106 lo_X9 rfl ?_
                refine jm_bipush F dX9_brings_46 kb_10 ?_
                refine jm_icmp_ne F dX9_brings_48 (fun c8 => ?_) (fun c8 => ?_)
                · refine jm_bipush F dX9_brings_51 kb_m6 ?_
                  refine jm_goto F dX9_brings_53 ?_
                  exact jm_weakD F (lv' := [some (.ref (jm_a E 0 0)), some (.int p1), some (.int p2), some (.int p3), some (.int p4), none]) ⟨rfl, rfl, rfl, rfl, rfl, trivial⟩ (fun h => h)
                · refine jm_aload_n (i := 0) F dX9_brings_56 rfl rfl ?_
                  refine jm_iload_n (i := 3) F dX9_brings_57 rfl rfl ?_
                  refine jm_callV (As := [.int p3]) (st := []) (rv := fun r => some (.int r)) (mm := fun _ => M) F dX9_brings_58 qX9_217 rfl lo_X9 rfl (fun r h => kM_isPlace E hE h) rfl (Nat.le_of_ble_eq_true rfl) ⟨Nat.le_of_ble_eq_true rfl, Nat.le_of_ble_eq_true rfl⟩ (fun r9 => ?_)
                  refine jm_if_ne F dX9_brings_61 (fun c10 => ?_) (fun c10 => ?_)
                  · refine jm_iconst F dX9_brings_64 kc_m1 ?_
                    refine jm_goto F dX9_brings_65 ?_
                    exact jm_weakD F (lv' := [some (.ref (jm_a E 0 0)), some (.int p1), some (.int p2), some (.int p3), some (.int p4), none]) ⟨rfl, rfl, rfl, rfl, rfl, trivial⟩ (fun h => h)
                  · refine jm_iconst F dX9_brings_68 kc_0 ?_
                    exact jm_weakD F (lv' := [some (.ref (jm_a E 0 0)), some (.int p1), some (.int p2), some (.int p3), some (.int p4), none]) ⟨rfl, rfl, rfl, rfl, rfl, trivial⟩ (fun h => h)
          · refine jm_bipush F dX9_brings_24 kb_m4 ?_
            refine jm_goto F dX9_brings_26 ?_
            exact jm_weakD F (lv' := [some (.ref (jm_a E 0 0)), some (.int p1), some (.int p2), some (.int p3), some (.int p4), none]) ⟨rfl, rfl, rfl, rfl, rfl, trivial⟩ (fun h => h)
    · refine jm_istore (i := 5) (lv' := [some (.ref (jm_a E 0 0)), some (.int p1), some (.int p2), some (.int p3), some (.int p4), some (.int e2)]) F dX9_brings_69 (by decide) rfl rfl ?_
      refine jm_iload F dX9_brings_71 rfl ?_
      refine jm_bind (pcJ := 89) (lvJ := fun e11 => [some (.ref (jm_a E 0 0)), some (.int p1), some (.int p2), some (.int p3), some (.int p4), some (.int e11)]) (stJ := fun e11 => []) (MJ := fun e11 => M) ?_ (fun e11 => ?_)
      · refine jm_if_ne F dX9_brings_73 (fun c12 => ?_) (fun c12 => ?_)
        · refine jm_aload_n (i := 0) F dX9_brings_76 rfl rfl ?_
          refine jm_iload F dX9_brings_77 rfl ?_
          refine jm_callV (As := [.int p4]) (st := []) (rv := fun r => some (.int r)) (mm := fun _ => M) F dX9_brings_79 qX9_295 rfl lo_X9 rfl (fun r h => kM_isLetterTitle E hE h) rfl (Nat.le_of_ble_eq_true rfl) ⟨Nat.le_of_ble_eq_true rfl, Nat.le_of_ble_eq_true rfl⟩ (fun r13 => ?_)
          refine jm_if_eq F dX9_brings_82 (fun c14 => ?_) (fun c14 => ?_)
          · exact jm_weakD F (lv' := [some (.ref (jm_a E 0 0)), some (.int p1), some (.int p2), some (.int p3), some (.int p4), some (.int e2)]) ⟨rfl, rfl, rfl, rfl, rfl, rfl, trivial⟩ (fun h => h)
          · refine jm_bipush F dX9_brings_85 kb_m3 ?_
            refine jm_istore (i := 5) (lv' := [some (.ref (jm_a E 0 0)), some (.int p1), some (.int p2), some (.int p3), some (.int p4), some (.int (-3))]) F dX9_brings_87 (by decide) rfl rfl ?_
            exact jm_weakD F (lv' := [some (.ref (jm_a E 0 0)), some (.int p1), some (.int p2), some (.int p3), some (.int p4), some (.int (-3))]) ⟨rfl, rfl, rfl, rfl, rfl, rfl, trivial⟩ (fun h => h)
        · exact jm_weakD F (lv' := [some (.ref (jm_a E 0 0)), some (.int p1), some (.int p2), some (.int p3), some (.int p4), some (.int e2)]) ⟨rfl, rfl, rfl, rfl, rfl, rfl, trivial⟩ (fun h => h)
      · refine jm_iload F dX9_brings_89 rfl ?_
        refine jm_if_eq F dX9_brings_91 (fun c15 => ?_) (fun c15 => ?_)
        · refine jm_aload_n (i := 0) F dX9_brings_101 rfl rfl ?_
          refine jm_iload_n (i := 1) F dX9_brings_102 rfl rfl ?_
          refine jm_iload_n (i := 2) F dX9_brings_103 rfl rfl ?_
          refine jm_iload_n (i := 3) F dX9_brings_104 rfl rfl ?_
          refine jm_callV (As := [.int p1, .int p2, .int p3]) (st := []) (rv := fun _ => none) (mm := fun r => r) F dX9_brings_105 qX9_223 rfl lo_X9 rfl (fun r h => kM_isBrought E hE h) rfl (Nat.le_of_ble_eq_true rfl) ⟨Nat.le_of_ble_eq_true rfl, Nat.le_of_ble_eq_true rfl⟩ (fun r16 => ?_)
          refine jm_aload_n (i := 0) F dX9_brings_108 rfl rfl ?_
          refine jm_iload F dX9_brings_109 rfl ?_
          refine jm_callV (As := [.int p4]) (st := []) (rv := fun _ => none) (mm := fun r => r) F dX9_brings_111 qX9_226 rfl lo_X9 rfl (fun r h => kM_isTitledMore E hE h) rfl (Nat.le_of_ble_eq_true rfl) ⟨Nat.le_of_ble_eq_true rfl, Nat.le_of_ble_eq_true rfl⟩ (fun r17 => ?_)
          refine jm_aload_n (i := 0) F dX9_brings_114 rfl rfl ?_
          refine jm_iconst F dX9_brings_115 kc_0 ?_
          refine jm_putI F dX9_brings_116 fp_X9_260 lo_X9 rfl (fun M18 => ?_)
          refine jm_aload_n (i := 0) F dX9_brings_119 rfl rfl ?_
          refine jm_getI F dX9_brings_120 fl_X9_106 lo_X9 rfl ?_
          refine jm_iconst F dX9_brings_123 kc_1 ?_
          refine jm_isub F dX9_brings_124 ?_
          exact jm_iret F dX9_brings_125 (fun h => h)
        · refine jm_aload_n (i := 0) F dX9_brings_94 rfl rfl ?_
          refine jm_iload F dX9_brings_95 rfl ?_
          refine jm_callV (As := [.int e11]) (st := []) (rv := fun r => some (.int r.1)) (mm := fun r => r.2) F dX9_brings_97 qX9_172 rfl lo_X9 rfl (fun r h => kM_no E hE h) rfl (Nat.le_of_ble_eq_true rfl) ⟨Nat.le_of_ble_eq_true rfl, Nat.le_of_ble_eq_true rfl⟩ (fun r19 => ?_)
          exact jm_iret F dX9_brings_100 (fun h => h)
  exact G r h hz
theorem dX9_eats_0 : jm_d cX9_eats 0 (.aload_n 0) 1 1 := ⟨by decide +kernel, rfl⟩
theorem dX9_eats_1 : jm_d cX9_eats 1 (.iload_n 1) 1 2 := ⟨by decide +kernel, rfl⟩
theorem dX9_eats_2 : jm_d cX9_eats 2 (.invokevirtual 102) 3 5 := ⟨by decide +kernel, rfl⟩
theorem dX9_eats_5 : jm_b cX9_eats 5 (.ifCond .ne) 8 12 := ⟨7, by decide +kernel, rfl, by decide⟩
theorem dX9_eats_8 : jm_d cX9_eats 8 (.iconst (-1)) 1 9 := ⟨by decide +kernel, rfl⟩
theorem dX9_eats_9 : jm_b cX9_eats 9 .goto 12 19 := ⟨10, by decide +kernel, rfl, by decide⟩
theorem dX9_eats_12 : jm_d cX9_eats 12 (.iload_n 2) 1 13 := ⟨by decide +kernel, rfl⟩
theorem dX9_eats_13 : jm_d cX9_eats 13 (.iconst 0) 1 14 := ⟨by decide +kernel, rfl⟩
theorem dX9_eats_14 : jm_d cX9_eats 14 (.bipush 99) 2 16 := ⟨by decide +kernel, rfl⟩
theorem dX9_eats_16 : jm_d cX9_eats 16 (.invokestatic 166) 3 19 := ⟨by decide +kernel, rfl⟩
theorem dX9_eats_19 : jm_d cX9_eats 19 (.istore_n 3) 1 20 := ⟨by decide +kernel, rfl⟩
theorem dX9_eats_20 : jm_d cX9_eats 20 (.iload_n 3) 1 21 := ⟨by decide +kernel, rfl⟩
theorem dX9_eats_21 : jm_b cX9_eats 21 (.ifCond .eq) 24 30 := ⟨9, by decide +kernel, rfl, by decide⟩
theorem dX9_eats_30 : jm_d cX9_eats 30 (.aload_n 0) 1 31 := ⟨by decide +kernel, rfl⟩
theorem dX9_eats_31 : jm_d cX9_eats 31 (.invokevirtual 298) 3 34 := ⟨by decide +kernel, rfl⟩
theorem dX9_eats_34 : jm_d cX9_eats 34 (.aload_n 0) 1 35 := ⟨by decide +kernel, rfl⟩
theorem dX9_eats_35 : jm_d cX9_eats 35 (.getfield 13) 3 38 := ⟨by decide +kernel, rfl⟩
theorem dX9_eats_38 : jm_d cX9_eats 38 (.iload_n 1) 1 39 := ⟨by decide +kernel, rfl⟩
theorem dX9_eats_39 : jm_d cX9_eats 39 (.iaload) 1 40 := ⟨by decide +kernel, rfl⟩
theorem dX9_eats_40 : jm_d cX9_eats 40 (.istore 4) 2 42 := ⟨by decide +kernel, rfl⟩
theorem dX9_eats_42 : jm_d cX9_eats 42 (.aload_n 0) 1 43 := ⟨by decide +kernel, rfl⟩
theorem dX9_eats_43 : jm_d cX9_eats 43 (.getfield 13) 3 46 := ⟨by decide +kernel, rfl⟩
theorem dX9_eats_46 : jm_d cX9_eats 46 (.iload_n 1) 1 47 := ⟨by decide +kernel, rfl⟩
theorem dX9_eats_47 : jm_d cX9_eats 47 (.iload_n 2) 1 48 := ⟨by decide +kernel, rfl⟩
theorem dX9_eats_48 : jm_d cX9_eats 48 (.iastore) 1 49 := ⟨by decide +kernel, rfl⟩
theorem dX9_eats_49 : jm_d cX9_eats 49 (.iload 4) 2 51 := ⟨by decide +kernel, rfl⟩
theorem dX9_eats_51 : jm_d cX9_eats 51 (.ireturn) 1 52 := ⟨by decide +kernel, rfl⟩
theorem dX9_eats_24 : jm_d cX9_eats 24 (.aload_n 0) 1 25 := ⟨by decide +kernel, rfl⟩
theorem dX9_eats_25 : jm_d cX9_eats 25 (.iload_n 3) 1 26 := ⟨by decide +kernel, rfl⟩
theorem dX9_eats_26 : jm_d cX9_eats 26 (.invokevirtual 172) 3 29 := ⟨by decide +kernel, rfl⟩
theorem dX9_eats_29 : jm_d cX9_eats 29 (.ireturn) 1 30 := ⟨by decide +kernel, rfl⟩
set_option maxHeartbeats 4000000 in
set_option maxRecDepth 100000 in
theorem kM_eats (E : jm_Ev) (hE : jm_dj E jm_LM) {M : jm_M} {p1 : Int32} {p2 : Int32}  {r : Int32 × jm_M} (h : sM_eats M p1 p2 = some r) : jm_Ct E jm_LM yX9_eats cX9_eats 5 (some .int) 3 64 [.ref (jm_a E 0 0), .int p1, .int p2] M (some (.int r.1)) r.2 := by
  refine jm_enter (lv := [some (.ref (jm_a E 0 0)), some (.int p1), some (.int p2), none, none]) hE (by decide) (Nat.le_of_ble_eq_true rfl) rfl ?_
  intro z w F hz
  have G : jm_G w 0 [some (.ref (jm_a E 0 0)), some (.int p1), some (.int p2), none, none] [] M (sM_eats M p1 p2) (fun e => z (some (.int e.1)) e.2) := by
    unfold sM_eats
    refine jm_aload_n (i := 0) F dX9_eats_0 rfl rfl ?_
    refine jm_iload_n (i := 1) F dX9_eats_1 rfl rfl ?_
    refine jm_callV (As := [.int p1]) (st := []) (rv := fun r => some (.int r)) (mm := fun _ => M) F dX9_eats_2 qX9_102 rfl lo_X9 rfl (fun r h => kM_isPerson E hE h) rfl (Nat.le_of_ble_eq_true rfl) ⟨Nat.le_of_ble_eq_true rfl, Nat.le_of_ble_eq_true rfl⟩ (fun r1 => ?_)
    refine jm_bind (pcJ := 19) (lvJ := fun e2 => [some (.ref (jm_a E 0 0)), some (.int p1), some (.int p2), none, none]) (stJ := fun e2 => [.int e2]) (MJ := fun e2 => M) ?_ (fun e2 => ?_)
    · refine jm_if_ne F dX9_eats_5 (fun c3 => ?_) (fun c3 => ?_)
      · refine jm_iconst F dX9_eats_8 kc_m1 ?_
        refine jm_goto F dX9_eats_9 ?_
        exact jm_weakD F (lv' := [some (.ref (jm_a E 0 0)), some (.int p1), some (.int p2), none, none]) ⟨rfl, rfl, rfl, trivial⟩ (fun h => h)
      · refine jm_iload_n (i := 2) F dX9_eats_12 rfl rfl ?_
        refine jm_iconst F dX9_eats_13 kc_0 ?_
        refine jm_bipush F dX9_eats_14 kb_99 ?_
        refine jm_callS (As := [.int p2, .int 0, .int 99]) (st := []) (rv := fun r => some (.int r)) (mm := fun _ => M) F dX9_eats_16 qX9_166 rfl (fun r h => kM_bound E hE h) rfl (Nat.le_of_ble_eq_true rfl) ⟨Nat.le_of_ble_eq_true rfl, Nat.le_of_ble_eq_true rfl⟩ (fun r4 => ?_)
        exact jm_weakD F (lv' := [some (.ref (jm_a E 0 0)), some (.int p1), some (.int p2), none, none]) ⟨rfl, rfl, rfl, trivial⟩ (fun h => h)
    · refine jm_istore_n (i := 3) (lv' := [some (.ref (jm_a E 0 0)), some (.int p1), some (.int p2), some (.int e2), none]) F dX9_eats_19 rfl (by decide) rfl rfl ?_
      refine jm_iload_n (i := 3) F dX9_eats_20 rfl rfl ?_
      refine jm_if_eq F dX9_eats_21 (fun c5 => ?_) (fun c5 => ?_)
      · refine jm_aload_n (i := 0) F dX9_eats_30 rfl rfl ?_
        refine jm_callV (As := []) (st := []) (rv := fun _ => none) (mm := fun r => r) F dX9_eats_31 qX9_298 rfl lo_X9 rfl (fun r h => kM_remembers E hE h) rfl (Nat.le_of_ble_eq_true rfl) ⟨Nat.le_of_ble_eq_true rfl, Nat.le_of_ble_eq_true rfl⟩ (fun r6 => ?_)
        refine jm_aload_n (i := 0) F dX9_eats_34 rfl rfl ?_
        refine jm_getR F dX9_eats_35 fl_X9_13 lo_X9 rfl ?_
        refine jm_iload_n (i := 1) F dX9_eats_38 rfl rfl ?_
        refine jm_iald F dX9_eats_39 la_X9_2 (fun v7 => ?_)
        refine jm_istore (i := 4) (lv' := [some (.ref (jm_a E 0 0)), some (.int p1), some (.int p2), some (.int e2), some (.int v7)]) F dX9_eats_40 (by decide) rfl rfl ?_
        refine jm_aload_n (i := 0) F dX9_eats_42 rfl rfl ?_
        refine jm_getR F dX9_eats_43 fl_X9_13 lo_X9 rfl ?_
        refine jm_iload_n (i := 1) F dX9_eats_46 rfl rfl ?_
        refine jm_iload_n (i := 2) F dX9_eats_47 rfl rfl ?_
        refine jm_iast F dX9_eats_48 la_X9_2 (fun M8 => ?_)
        refine jm_iload F dX9_eats_49 rfl ?_
        exact jm_iret F dX9_eats_51 (fun h => h)
      · refine jm_aload_n (i := 0) F dX9_eats_24 rfl rfl ?_
        refine jm_iload_n (i := 3) F dX9_eats_25 rfl rfl ?_
        refine jm_callV (As := [.int e2]) (st := []) (rv := fun r => some (.int r.1)) (mm := fun r => r.2) F dX9_eats_26 qX9_172 rfl lo_X9 rfl (fun r h => kM_no E hE h) rfl (Nat.le_of_ble_eq_true rfl) ⟨Nat.le_of_ble_eq_true rfl, Nat.le_of_ble_eq_true rfl⟩ (fun r9 => ?_)
        exact jm_iret F dX9_eats_29 (fun h => h)
  exact G r h hz
theorem dX9_reads_0 : jm_d cX9_reads 0 (.aload_n 0) 1 1 := ⟨by decide +kernel, rfl⟩
theorem dX9_reads_1 : jm_d cX9_reads 1 (.iload_n 1) 1 2 := ⟨by decide +kernel, rfl⟩
theorem dX9_reads_2 : jm_d cX9_reads 2 (.invokevirtual 102) 3 5 := ⟨by decide +kernel, rfl⟩
theorem dX9_reads_5 : jm_b cX9_reads 5 (.ifCond .eq) 8 16 := ⟨11, by decide +kernel, rfl, by decide⟩
theorem dX9_reads_16 : jm_d cX9_reads 16 (.aload_n 0) 1 17 := ⟨by decide +kernel, rfl⟩
theorem dX9_reads_17 : jm_d cX9_reads 17 (.iconst (-1)) 1 18 := ⟨by decide +kernel, rfl⟩
theorem dX9_reads_18 : jm_d cX9_reads 18 (.invokevirtual 172) 3 21 := ⟨by decide +kernel, rfl⟩
theorem dX9_reads_21 : jm_d cX9_reads 21 (.ireturn) 1 22 := ⟨by decide +kernel, rfl⟩
theorem dX9_reads_8 : jm_d cX9_reads 8 (.aload_n 0) 1 9 := ⟨by decide +kernel, rfl⟩
theorem dX9_reads_9 : jm_d cX9_reads 9 (.iload_n 2) 1 10 := ⟨by decide +kernel, rfl⟩
theorem dX9_reads_10 : jm_d cX9_reads 10 (.invokevirtual 289) 3 13 := ⟨by decide +kernel, rfl⟩
theorem dX9_reads_13 : jm_b cX9_reads 13 (.ifCond .ne) 16 22 := ⟨9, by decide +kernel, rfl, by decide⟩
theorem dX9_reads_22 : jm_d cX9_reads 22 (.aload_n 0) 1 23 := ⟨by decide +kernel, rfl⟩
theorem dX9_reads_23 : jm_d cX9_reads 23 (.invokevirtual 298) 3 26 := ⟨by decide +kernel, rfl⟩
theorem dX9_reads_26 : jm_d cX9_reads 26 (.aload_n 0) 1 27 := ⟨by decide +kernel, rfl⟩
theorem dX9_reads_27 : jm_d cX9_reads 27 (.getfield 34) 3 30 := ⟨by decide +kernel, rfl⟩
theorem dX9_reads_30 : jm_d cX9_reads 30 (.iload_n 2) 1 31 := ⟨by decide +kernel, rfl⟩
theorem dX9_reads_31 : jm_d cX9_reads 31 (.iaload) 1 32 := ⟨by decide +kernel, rfl⟩
theorem dX9_reads_32 : jm_d cX9_reads 32 (.iload_n 1) 1 33 := ⟨by decide +kernel, rfl⟩
theorem dX9_reads_33 : jm_d cX9_reads 33 (.invokestatic 132) 3 36 := ⟨by decide +kernel, rfl⟩
theorem dX9_reads_36 : jm_b cX9_reads 36 (.ifCond .eq) 39 43 := ⟨7, by decide +kernel, rfl, by decide⟩
theorem dX9_reads_43 : jm_d cX9_reads 43 (.iconst 1) 1 44 := ⟨by decide +kernel, rfl⟩
theorem dX9_reads_39 : jm_d cX9_reads 39 (.iconst 0) 1 40 := ⟨by decide +kernel, rfl⟩
theorem dX9_reads_40 : jm_b cX9_reads 40 .goto 43 44 := ⟨4, by decide +kernel, rfl, by decide⟩
theorem dX9_reads_44 : jm_d cX9_reads 44 (.istore_n 3) 1 45 := ⟨by decide +kernel, rfl⟩
theorem dX9_reads_45 : jm_d cX9_reads 45 (.aload_n 0) 1 46 := ⟨by decide +kernel, rfl⟩
theorem dX9_reads_46 : jm_d cX9_reads 46 (.getfield 34) 3 49 := ⟨by decide +kernel, rfl⟩
theorem dX9_reads_49 : jm_d cX9_reads 49 (.iload_n 2) 1 50 := ⟨by decide +kernel, rfl⟩
theorem dX9_reads_50 : jm_d cX9_reads 50 (.dup2) 1 51 := ⟨by decide +kernel, rfl⟩
theorem dX9_reads_51 : jm_d cX9_reads 51 (.iaload) 1 52 := ⟨by decide +kernel, rfl⟩
theorem dX9_reads_52 : jm_d cX9_reads 52 (.iconst 1) 1 53 := ⟨by decide +kernel, rfl⟩
theorem dX9_reads_53 : jm_d cX9_reads 53 (.iload_n 1) 1 54 := ⟨by decide +kernel, rfl⟩
theorem dX9_reads_54 : jm_d cX9_reads 54 (.ishl) 1 55 := ⟨by decide +kernel, rfl⟩
theorem dX9_reads_55 : jm_d cX9_reads 55 (.ior) 1 56 := ⟨by decide +kernel, rfl⟩
theorem dX9_reads_56 : jm_d cX9_reads 56 (.iastore) 1 57 := ⟨by decide +kernel, rfl⟩
theorem dX9_reads_57 : jm_d cX9_reads 57 (.iload_n 3) 1 58 := ⟨by decide +kernel, rfl⟩
theorem dX9_reads_58 : jm_d cX9_reads 58 (.ireturn) 1 59 := ⟨by decide +kernel, rfl⟩
set_option maxHeartbeats 4000000 in
set_option maxRecDepth 100000 in
theorem kM_reads (E : jm_Ev) (hE : jm_dj E jm_LM) {M : jm_M} {p1 : Int32} {p2 : Int32}  {r : Int32 × jm_M} (h : sM_reads M p1 p2 = some r) : jm_Ct E jm_LM yX9_reads cX9_reads 4 (some .int) 3 64 [.ref (jm_a E 0 0), .int p1, .int p2] M (some (.int r.1)) r.2 := by
  refine jm_enter (lv := [some (.ref (jm_a E 0 0)), some (.int p1), some (.int p2), none]) hE (by decide) (Nat.le_of_ble_eq_true rfl) rfl ?_
  intro z w F hz
  have G : jm_G w 0 [some (.ref (jm_a E 0 0)), some (.int p1), some (.int p2), none] [] M (sM_reads M p1 p2) (fun e => z (some (.int e.1)) e.2) := by
    unfold sM_reads
    refine jm_aload_n (i := 0) F dX9_reads_0 rfl rfl ?_
    refine jm_iload_n (i := 1) F dX9_reads_1 rfl rfl ?_
    refine jm_callV (As := [.int p1]) (st := []) (rv := fun r => some (.int r)) (mm := fun _ => M) F dX9_reads_2 qX9_102 rfl lo_X9 rfl (fun r h => kM_isPerson E hE h) rfl (Nat.le_of_ble_eq_true rfl) ⟨Nat.le_of_ble_eq_true rfl, Nat.le_of_ble_eq_true rfl⟩ (fun r1 => ?_)
    refine jm_if_eq F dX9_reads_5 (fun c2 => ?_) (fun c2 => ?_)
    · refine jm_aload_n (i := 0) F dX9_reads_16 rfl rfl ?_
      refine jm_iconst F dX9_reads_17 kc_m1 ?_
      refine jm_callV (As := [.int (-1)]) (st := []) (rv := fun r => some (.int r.1)) (mm := fun r => r.2) F dX9_reads_18 qX9_172 rfl lo_X9 rfl (fun r h => kM_no E hE h) rfl (Nat.le_of_ble_eq_true rfl) ⟨Nat.le_of_ble_eq_true rfl, Nat.le_of_ble_eq_true rfl⟩ (fun r3 => ?_)
      exact jm_iret F dX9_reads_21 (fun h => h)
    · refine jm_aload_n (i := 0) F dX9_reads_8 rfl rfl ?_
      refine jm_iload_n (i := 2) F dX9_reads_9 rfl rfl ?_
      refine jm_callV (As := [.int p2]) (st := []) (rv := fun r => some (.int r)) (mm := fun _ => M) F dX9_reads_10 qX9_289 rfl lo_X9 rfl (fun r h => kM_isBook E hE h) rfl (Nat.le_of_ble_eq_true rfl) ⟨Nat.le_of_ble_eq_true rfl, Nat.le_of_ble_eq_true rfl⟩ (fun r4 => ?_)
      refine jm_if_ne F dX9_reads_13 (fun c5 => ?_) (fun c5 => ?_)
      · refine jm_aload_n (i := 0) F dX9_reads_16 rfl rfl ?_
        refine jm_iconst F dX9_reads_17 kc_m1 ?_
        refine jm_callV (As := [.int (-1)]) (st := []) (rv := fun r => some (.int r.1)) (mm := fun r => r.2) F dX9_reads_18 qX9_172 rfl lo_X9 rfl (fun r h => kM_no E hE h) rfl (Nat.le_of_ble_eq_true rfl) ⟨Nat.le_of_ble_eq_true rfl, Nat.le_of_ble_eq_true rfl⟩ (fun r6 => ?_)
        exact jm_iret F dX9_reads_21 (fun h => h)
      · refine jm_aload_n (i := 0) F dX9_reads_22 rfl rfl ?_
        refine jm_callV (As := []) (st := []) (rv := fun _ => none) (mm := fun r => r) F dX9_reads_23 qX9_298 rfl lo_X9 rfl (fun r h => kM_remembers E hE h) rfl (Nat.le_of_ble_eq_true rfl) ⟨Nat.le_of_ble_eq_true rfl, Nat.le_of_ble_eq_true rfl⟩ (fun r7 => ?_)
        refine jm_aload_n (i := 0) F dX9_reads_26 rfl rfl ?_
        refine jm_getR F dX9_reads_27 fl_X9_34 lo_X9 rfl ?_
        refine jm_iload_n (i := 2) F dX9_reads_30 rfl rfl ?_
        refine jm_iald F dX9_reads_31 la_X9_9 (fun v8 => ?_)
        refine jm_iload_n (i := 1) F dX9_reads_32 rfl rfl ?_
        refine jm_callS (As := [.int v8, .int p1]) (st := []) (rv := fun r => some (.int r)) (mm := fun _ => r7) F dX9_reads_33 qX9_132 rfl (fun r h => kM_has E hE h) rfl (Nat.le_of_ble_eq_true rfl) ⟨Nat.le_of_ble_eq_true rfl, Nat.le_of_ble_eq_true rfl⟩ (fun r9 => ?_)
        refine jm_bind (pcJ := 44) (lvJ := fun e10 => [some (.ref (jm_a E 0 0)), some (.int p1), some (.int p2), none]) (stJ := fun e10 => [.int e10]) (MJ := fun e10 => r7) ?_ (fun e10 => ?_)
        · refine jm_if_eq F dX9_reads_36 (fun c11 => ?_) (fun c11 => ?_)
          · refine jm_iconst F dX9_reads_43 kc_1 ?_
            exact jm_weakD F (lv' := [some (.ref (jm_a E 0 0)), some (.int p1), some (.int p2), none]) ⟨rfl, rfl, rfl, trivial⟩ (fun h => h)
          · refine jm_iconst F dX9_reads_39 kc_0 ?_
            refine jm_goto F dX9_reads_40 ?_
            exact jm_weakD F (lv' := [some (.ref (jm_a E 0 0)), some (.int p1), some (.int p2), none]) ⟨rfl, rfl, rfl, trivial⟩ (fun h => h)
        · refine jm_istore_n (i := 3) (lv' := [some (.ref (jm_a E 0 0)), some (.int p1), some (.int p2), some (.int e10)]) F dX9_reads_44 rfl (by decide) rfl rfl ?_
          refine jm_aload_n (i := 0) F dX9_reads_45 rfl rfl ?_
          refine jm_getR F dX9_reads_46 fl_X9_34 lo_X9 rfl ?_
          refine jm_iload_n (i := 2) F dX9_reads_49 rfl rfl ?_
          refine jm_dup2 F dX9_reads_50 rfl rfl ?_
          refine jm_iald F dX9_reads_51 la_X9_9 (fun v12 => ?_)
          refine jm_iconst F dX9_reads_52 kc_1 ?_
          refine jm_iload_n (i := 1) F dX9_reads_53 rfl rfl ?_
          refine jm_ishl F dX9_reads_54 ?_
          refine jm_ior F dX9_reads_55 ?_
          refine jm_iast F dX9_reads_56 la_X9_9 (fun M13 => ?_)
          refine jm_iload_n (i := 3) F dX9_reads_57 rfl rfl ?_
          exact jm_iret F dX9_reads_58 (fun h => h)
  exact G r h hz
theorem dX9_lends_0 : jm_d cX9_lends 0 (.aload_n 0) 1 1 := ⟨by decide +kernel, rfl⟩
theorem dX9_lends_1 : jm_d cX9_lends 1 (.iload_n 1) 1 2 := ⟨by decide +kernel, rfl⟩
theorem dX9_lends_2 : jm_d cX9_lends 2 (.invokevirtual 289) 3 5 := ⟨by decide +kernel, rfl⟩
theorem dX9_lends_5 : jm_b cX9_lends 5 (.ifCond .eq) 8 16 := ⟨11, by decide +kernel, rfl, by decide⟩
theorem dX9_lends_16 : jm_d cX9_lends 16 (.aload_n 0) 1 17 := ⟨by decide +kernel, rfl⟩
theorem dX9_lends_17 : jm_d cX9_lends 17 (.iconst (-1)) 1 18 := ⟨by decide +kernel, rfl⟩
theorem dX9_lends_18 : jm_d cX9_lends 18 (.invokevirtual 172) 3 21 := ⟨by decide +kernel, rfl⟩
theorem dX9_lends_21 : jm_d cX9_lends 21 (.ireturn) 1 22 := ⟨by decide +kernel, rfl⟩
theorem dX9_lends_8 : jm_d cX9_lends 8 (.aload_n 0) 1 9 := ⟨by decide +kernel, rfl⟩
theorem dX9_lends_9 : jm_d cX9_lends 9 (.iload_n 2) 1 10 := ⟨by decide +kernel, rfl⟩
theorem dX9_lends_10 : jm_d cX9_lends 10 (.invokevirtual 217) 3 13 := ⟨by decide +kernel, rfl⟩
theorem dX9_lends_13 : jm_b cX9_lends 13 (.ifCond .ne) 16 22 := ⟨9, by decide +kernel, rfl, by decide⟩
theorem dX9_lends_22 : jm_d cX9_lends 22 (.aload_n 0) 1 23 := ⟨by decide +kernel, rfl⟩
theorem dX9_lends_23 : jm_d cX9_lends 23 (.invokevirtual 298) 3 26 := ⟨by decide +kernel, rfl⟩
theorem dX9_lends_26 : jm_d cX9_lends 26 (.aload_n 0) 1 27 := ⟨by decide +kernel, rfl⟩
theorem dX9_lends_27 : jm_d cX9_lends 27 (.getfield 31) 3 30 := ⟨by decide +kernel, rfl⟩
theorem dX9_lends_30 : jm_d cX9_lends 30 (.iload_n 1) 1 31 := ⟨by decide +kernel, rfl⟩
theorem dX9_lends_31 : jm_d cX9_lends 31 (.iaload) 1 32 := ⟨by decide +kernel, rfl⟩
theorem dX9_lends_32 : jm_d cX9_lends 32 (.istore_n 3) 1 33 := ⟨by decide +kernel, rfl⟩
theorem dX9_lends_33 : jm_d cX9_lends 33 (.aload_n 0) 1 34 := ⟨by decide +kernel, rfl⟩
theorem dX9_lends_34 : jm_d cX9_lends 34 (.getfield 31) 3 37 := ⟨by decide +kernel, rfl⟩
theorem dX9_lends_37 : jm_d cX9_lends 37 (.iload_n 1) 1 38 := ⟨by decide +kernel, rfl⟩
theorem dX9_lends_38 : jm_d cX9_lends 38 (.iload_n 2) 1 39 := ⟨by decide +kernel, rfl⟩
theorem dX9_lends_39 : jm_d cX9_lends 39 (.iastore) 1 40 := ⟨by decide +kernel, rfl⟩
theorem dX9_lends_40 : jm_d cX9_lends 40 (.iload_n 3) 1 41 := ⟨by decide +kernel, rfl⟩
theorem dX9_lends_41 : jm_d cX9_lends 41 (.ireturn) 1 42 := ⟨by decide +kernel, rfl⟩
set_option maxHeartbeats 4000000 in
set_option maxRecDepth 100000 in
theorem kM_lends (E : jm_Ev) (hE : jm_dj E jm_LM) {M : jm_M} {p1 : Int32} {p2 : Int32}  {r : Int32 × jm_M} (h : sM_lends M p1 p2 = some r) : jm_Ct E jm_LM yX9_lends cX9_lends 4 (some .int) 3 64 [.ref (jm_a E 0 0), .int p1, .int p2] M (some (.int r.1)) r.2 := by
  refine jm_enter (lv := [some (.ref (jm_a E 0 0)), some (.int p1), some (.int p2), none]) hE (by decide) (Nat.le_of_ble_eq_true rfl) rfl ?_
  intro z w F hz
  have G : jm_G w 0 [some (.ref (jm_a E 0 0)), some (.int p1), some (.int p2), none] [] M (sM_lends M p1 p2) (fun e => z (some (.int e.1)) e.2) := by
    unfold sM_lends
    refine jm_aload_n (i := 0) F dX9_lends_0 rfl rfl ?_
    refine jm_iload_n (i := 1) F dX9_lends_1 rfl rfl ?_
    refine jm_callV (As := [.int p1]) (st := []) (rv := fun r => some (.int r)) (mm := fun _ => M) F dX9_lends_2 qX9_289 rfl lo_X9 rfl (fun r h => kM_isBook E hE h) rfl (Nat.le_of_ble_eq_true rfl) ⟨Nat.le_of_ble_eq_true rfl, Nat.le_of_ble_eq_true rfl⟩ (fun r1 => ?_)
    refine jm_if_eq F dX9_lends_5 (fun c2 => ?_) (fun c2 => ?_)
    · refine jm_aload_n (i := 0) F dX9_lends_16 rfl rfl ?_
      refine jm_iconst F dX9_lends_17 kc_m1 ?_
      refine jm_callV (As := [.int (-1)]) (st := []) (rv := fun r => some (.int r.1)) (mm := fun r => r.2) F dX9_lends_18 qX9_172 rfl lo_X9 rfl (fun r h => kM_no E hE h) rfl (Nat.le_of_ble_eq_true rfl) ⟨Nat.le_of_ble_eq_true rfl, Nat.le_of_ble_eq_true rfl⟩ (fun r3 => ?_)
      exact jm_iret F dX9_lends_21 (fun h => h)
    · refine jm_aload_n (i := 0) F dX9_lends_8 rfl rfl ?_
      refine jm_iload_n (i := 2) F dX9_lends_9 rfl rfl ?_
      refine jm_callV (As := [.int p2]) (st := []) (rv := fun r => some (.int r)) (mm := fun _ => M) F dX9_lends_10 qX9_217 rfl lo_X9 rfl (fun r h => kM_isPlace E hE h) rfl (Nat.le_of_ble_eq_true rfl) ⟨Nat.le_of_ble_eq_true rfl, Nat.le_of_ble_eq_true rfl⟩ (fun r4 => ?_)
      refine jm_if_ne F dX9_lends_13 (fun c5 => ?_) (fun c5 => ?_)
      · refine jm_aload_n (i := 0) F dX9_lends_16 rfl rfl ?_
        refine jm_iconst F dX9_lends_17 kc_m1 ?_
        refine jm_callV (As := [.int (-1)]) (st := []) (rv := fun r => some (.int r.1)) (mm := fun r => r.2) F dX9_lends_18 qX9_172 rfl lo_X9 rfl (fun r h => kM_no E hE h) rfl (Nat.le_of_ble_eq_true rfl) ⟨Nat.le_of_ble_eq_true rfl, Nat.le_of_ble_eq_true rfl⟩ (fun r6 => ?_)
        exact jm_iret F dX9_lends_21 (fun h => h)
      · refine jm_aload_n (i := 0) F dX9_lends_22 rfl rfl ?_
        refine jm_callV (As := []) (st := []) (rv := fun _ => none) (mm := fun r => r) F dX9_lends_23 qX9_298 rfl lo_X9 rfl (fun r h => kM_remembers E hE h) rfl (Nat.le_of_ble_eq_true rfl) ⟨Nat.le_of_ble_eq_true rfl, Nat.le_of_ble_eq_true rfl⟩ (fun r7 => ?_)
        refine jm_aload_n (i := 0) F dX9_lends_26 rfl rfl ?_
        refine jm_getR F dX9_lends_27 fl_X9_31 lo_X9 rfl ?_
        refine jm_iload_n (i := 1) F dX9_lends_30 rfl rfl ?_
        refine jm_iald F dX9_lends_31 la_X9_8 (fun v8 => ?_)
        refine jm_istore_n (i := 3) (lv' := [some (.ref (jm_a E 0 0)), some (.int p1), some (.int p2), some (.int v8)]) F dX9_lends_32 rfl (by decide) rfl rfl ?_
        refine jm_aload_n (i := 0) F dX9_lends_33 rfl rfl ?_
        refine jm_getR F dX9_lends_34 fl_X9_31 lo_X9 rfl ?_
        refine jm_iload_n (i := 1) F dX9_lends_37 rfl rfl ?_
        refine jm_iload_n (i := 2) F dX9_lends_38 rfl rfl ?_
        refine jm_iast F dX9_lends_39 la_X9_8 (fun M9 => ?_)
        refine jm_iload_n (i := 3) F dX9_lends_40 rfl rfl ?_
        exact jm_iret F dX9_lends_41 (fun h => h)
  exact G r h hz
theorem dX9_buys_0 : jm_d cX9_buys 0 (.aload_n 0) 1 1 := ⟨by decide +kernel, rfl⟩
theorem dX9_buys_1 : jm_d cX9_buys 1 (.iload_n 1) 1 2 := ⟨by decide +kernel, rfl⟩
theorem dX9_buys_2 : jm_d cX9_buys 2 (.invokevirtual 102) 3 5 := ⟨by decide +kernel, rfl⟩
theorem dX9_buys_5 : jm_b cX9_buys 5 (.ifCond .eq) 8 16 := ⟨11, by decide +kernel, rfl, by decide⟩
theorem dX9_buys_16 : jm_d cX9_buys 16 (.iconst (-1)) 1 17 := ⟨by decide +kernel, rfl⟩
theorem dX9_buys_17 : jm_b cX9_buys 17 .goto 20 51 := ⟨34, by decide +kernel, rfl, by decide⟩
theorem dX9_buys_8 : jm_d cX9_buys 8 (.aload_n 0) 1 9 := ⟨by decide +kernel, rfl⟩
theorem dX9_buys_9 : jm_d cX9_buys 9 (.iload_n 2) 1 10 := ⟨by decide +kernel, rfl⟩
theorem dX9_buys_10 : jm_d cX9_buys 10 (.invokevirtual 289) 3 13 := ⟨by decide +kernel, rfl⟩
theorem dX9_buys_13 : jm_b cX9_buys 13 (.ifCond .ne) 16 20 := ⟨7, by decide +kernel, rfl, by decide⟩
theorem dX9_buys_20 : jm_d cX9_buys 20 (.aload_n 0) 1 21 := ⟨by decide +kernel, rfl⟩
theorem dX9_buys_21 : jm_d cX9_buys 21 (.getfield 28) 3 24 := ⟨by decide +kernel, rfl⟩
theorem dX9_buys_24 : jm_d cX9_buys 24 (.iload_n 2) 1 25 := ⟨by decide +kernel, rfl⟩
theorem dX9_buys_25 : jm_d cX9_buys 25 (.iaload) 1 26 := ⟨by decide +kernel, rfl⟩
theorem dX9_buys_26 : jm_d cX9_buys 26 (.bipush 9) 2 28 := ⟨by decide +kernel, rfl⟩
theorem dX9_buys_28 : jm_b cX9_buys 28 (.if_icmp .ne) 31 45 := ⟨17, by decide +kernel, rfl, by decide⟩
theorem dX9_buys_31 : jm_d cX9_buys 31 (.aload_n 0) 1 32 := ⟨by decide +kernel, rfl⟩
theorem dX9_buys_32 : jm_d cX9_buys 32 (.getfield 19) 3 35 := ⟨by decide +kernel, rfl⟩
theorem dX9_buys_35 : jm_d cX9_buys 35 (.iload_n 1) 1 36 := ⟨by decide +kernel, rfl⟩
theorem dX9_buys_36 : jm_d cX9_buys 36 (.iaload) 1 37 := ⟨by decide +kernel, rfl⟩
theorem dX9_buys_37 : jm_d cX9_buys 37 (.aload_n 0) 1 38 := ⟨by decide +kernel, rfl⟩
theorem dX9_buys_38 : jm_d cX9_buys 38 (.iload_n 2) 1 39 := ⟨by decide +kernel, rfl⟩
theorem dX9_buys_39 : jm_d cX9_buys 39 (.invokevirtual 292) 3 42 := ⟨by decide +kernel, rfl⟩
theorem dX9_buys_42 : jm_b cX9_buys 42 (.if_icmp .ge) 45 50 := ⟨8, by decide +kernel, rfl, by decide⟩
theorem dX9_buys_50 : jm_d cX9_buys 50 (.iconst 0) 1 51 := ⟨by decide +kernel, rfl⟩
theorem dX9_buys_45 : jm_d cX9_buys 45 (.bipush (-3)) 2 47 := ⟨by decide +kernel, rfl⟩
theorem dX9_buys_47 : jm_b cX9_buys 47 .goto 50 51 := ⟨4, by decide +kernel, rfl, by decide⟩
theorem dX9_buys_51 : jm_d cX9_buys 51 (.istore_n 3) 1 52 := ⟨by decide +kernel, rfl⟩
theorem dX9_buys_52 : jm_d cX9_buys 52 (.iload_n 3) 1 53 := ⟨by decide +kernel, rfl⟩
theorem dX9_buys_53 : jm_b cX9_buys 53 (.ifCond .eq) 56 62 := ⟨9, by decide +kernel, rfl, by decide⟩
theorem dX9_buys_62 : jm_d cX9_buys 62 (.aload_n 0) 1 63 := ⟨by decide +kernel, rfl⟩
theorem dX9_buys_63 : jm_d cX9_buys 63 (.invokevirtual 298) 3 66 := ⟨by decide +kernel, rfl⟩
theorem dX9_buys_66 : jm_d cX9_buys 66 (.aload_n 0) 1 67 := ⟨by decide +kernel, rfl⟩
theorem dX9_buys_67 : jm_d cX9_buys 67 (.getfield 19) 3 70 := ⟨by decide +kernel, rfl⟩
theorem dX9_buys_70 : jm_d cX9_buys 70 (.iload_n 1) 1 71 := ⟨by decide +kernel, rfl⟩
theorem dX9_buys_71 : jm_d cX9_buys 71 (.dup2) 1 72 := ⟨by decide +kernel, rfl⟩
theorem dX9_buys_72 : jm_d cX9_buys 72 (.iaload) 1 73 := ⟨by decide +kernel, rfl⟩
theorem dX9_buys_73 : jm_d cX9_buys 73 (.aload_n 0) 1 74 := ⟨by decide +kernel, rfl⟩
theorem dX9_buys_74 : jm_d cX9_buys 74 (.iload_n 2) 1 75 := ⟨by decide +kernel, rfl⟩
theorem dX9_buys_75 : jm_d cX9_buys 75 (.invokevirtual 292) 3 78 := ⟨by decide +kernel, rfl⟩
theorem dX9_buys_78 : jm_d cX9_buys 78 (.isub) 1 79 := ⟨by decide +kernel, rfl⟩
theorem dX9_buys_79 : jm_d cX9_buys 79 (.iastore) 1 80 := ⟨by decide +kernel, rfl⟩
theorem dX9_buys_80 : jm_d cX9_buys 80 (.aload_n 0) 1 81 := ⟨by decide +kernel, rfl⟩
theorem dX9_buys_81 : jm_d cX9_buys 81 (.getfield 28) 3 84 := ⟨by decide +kernel, rfl⟩
theorem dX9_buys_84 : jm_d cX9_buys 84 (.iload_n 2) 1 85 := ⟨by decide +kernel, rfl⟩
theorem dX9_buys_85 : jm_d cX9_buys 85 (.iload_n 1) 1 86 := ⟨by decide +kernel, rfl⟩
theorem dX9_buys_86 : jm_d cX9_buys 86 (.iastore) 1 87 := ⟨by decide +kernel, rfl⟩
theorem dX9_buys_87 : jm_d cX9_buys 87 (.aload_n 0) 1 88 := ⟨by decide +kernel, rfl⟩
theorem dX9_buys_88 : jm_d cX9_buys 88 (.getfield 31) 3 91 := ⟨by decide +kernel, rfl⟩
theorem dX9_buys_91 : jm_d cX9_buys 91 (.iload_n 2) 1 92 := ⟨by decide +kernel, rfl⟩
theorem dX9_buys_92 : jm_d cX9_buys 92 (.iload_n 1) 1 93 := ⟨by decide +kernel, rfl⟩
theorem dX9_buys_93 : jm_d cX9_buys 93 (.iastore) 1 94 := ⟨by decide +kernel, rfl⟩
theorem dX9_buys_94 : jm_d cX9_buys 94 (.aload_n 0) 1 95 := ⟨by decide +kernel, rfl⟩
theorem dX9_buys_95 : jm_d cX9_buys 95 (.getfield 19) 3 98 := ⟨by decide +kernel, rfl⟩
theorem dX9_buys_98 : jm_d cX9_buys 98 (.iload_n 1) 1 99 := ⟨by decide +kernel, rfl⟩
theorem dX9_buys_99 : jm_d cX9_buys 99 (.iaload) 1 100 := ⟨by decide +kernel, rfl⟩
theorem dX9_buys_100 : jm_d cX9_buys 100 (.ireturn) 1 101 := ⟨by decide +kernel, rfl⟩
theorem dX9_buys_56 : jm_d cX9_buys 56 (.aload_n 0) 1 57 := ⟨by decide +kernel, rfl⟩
theorem dX9_buys_57 : jm_d cX9_buys 57 (.iload_n 3) 1 58 := ⟨by decide +kernel, rfl⟩
theorem dX9_buys_58 : jm_d cX9_buys 58 (.invokevirtual 172) 3 61 := ⟨by decide +kernel, rfl⟩
theorem dX9_buys_61 : jm_d cX9_buys 61 (.ireturn) 1 62 := ⟨by decide +kernel, rfl⟩
set_option maxHeartbeats 4000000 in
set_option maxRecDepth 100000 in
theorem kM_buys (E : jm_Ev) (hE : jm_dj E jm_LM) {M : jm_M} {p1 : Int32} {p2 : Int32}  {r : Int32 × jm_M} (h : sM_buys M p1 p2 = some r) : jm_Ct E jm_LM yX9_buys cX9_buys 4 (some .int) 3 64 [.ref (jm_a E 0 0), .int p1, .int p2] M (some (.int r.1)) r.2 := by
  refine jm_enter (lv := [some (.ref (jm_a E 0 0)), some (.int p1), some (.int p2), none]) hE (by decide) (Nat.le_of_ble_eq_true rfl) rfl ?_
  intro z w F hz
  have G : jm_G w 0 [some (.ref (jm_a E 0 0)), some (.int p1), some (.int p2), none] [] M (sM_buys M p1 p2) (fun e => z (some (.int e.1)) e.2) := by
    unfold sM_buys
    refine jm_aload_n (i := 0) F dX9_buys_0 rfl rfl ?_
    refine jm_iload_n (i := 1) F dX9_buys_1 rfl rfl ?_
    refine jm_callV (As := [.int p1]) (st := []) (rv := fun r => some (.int r)) (mm := fun _ => M) F dX9_buys_2 qX9_102 rfl lo_X9 rfl (fun r h => kM_isPerson E hE h) rfl (Nat.le_of_ble_eq_true rfl) ⟨Nat.le_of_ble_eq_true rfl, Nat.le_of_ble_eq_true rfl⟩ (fun r1 => ?_)
    refine jm_bind (pcJ := 51) (lvJ := fun e2 => [some (.ref (jm_a E 0 0)), some (.int p1), some (.int p2), none]) (stJ := fun e2 => [.int e2]) (MJ := fun e2 => M) ?_ (fun e2 => ?_)
    · refine jm_if_eq F dX9_buys_5 (fun c3 => ?_) (fun c3 => ?_)
      · refine jm_iconst F dX9_buys_16 kc_m1 ?_
        refine jm_goto F dX9_buys_17 ?_
        exact jm_weakD F (lv' := [some (.ref (jm_a E 0 0)), some (.int p1), some (.int p2), none]) ⟨rfl, rfl, rfl, trivial⟩ (fun h => h)
      · refine jm_aload_n (i := 0) F dX9_buys_8 rfl rfl ?_
        refine jm_iload_n (i := 2) F dX9_buys_9 rfl rfl ?_
        refine jm_callV (As := [.int p2]) (st := []) (rv := fun r => some (.int r)) (mm := fun _ => M) F dX9_buys_10 qX9_289 rfl lo_X9 rfl (fun r h => kM_isBook E hE h) rfl (Nat.le_of_ble_eq_true rfl) ⟨Nat.le_of_ble_eq_true rfl, Nat.le_of_ble_eq_true rfl⟩ (fun r4 => ?_)
        refine jm_if_ne F dX9_buys_13 (fun c5 => ?_) (fun c5 => ?_)
        · refine jm_iconst F dX9_buys_16 kc_m1 ?_
          refine jm_goto F dX9_buys_17 ?_
          exact jm_weakD F (lv' := [some (.ref (jm_a E 0 0)), some (.int p1), some (.int p2), none]) ⟨rfl, rfl, rfl, trivial⟩ (fun h => h)
        · refine jm_aload_n (i := 0) F dX9_buys_20 rfl rfl ?_
          refine jm_getR F dX9_buys_21 fl_X9_28 lo_X9 rfl ?_
          refine jm_iload_n (i := 2) F dX9_buys_24 rfl rfl ?_
          refine jm_iald F dX9_buys_25 la_X9_7 (fun v6 => ?_)
          refine jm_bipush F dX9_buys_26 kb_9 ?_
          refine jm_icmp_ne F dX9_buys_28 (fun c7 => ?_) (fun c7 => ?_)
          · refine jm_aload_n (i := 0) F dX9_buys_31 rfl rfl ?_
            refine jm_getR F dX9_buys_32 fl_X9_19 lo_X9 rfl ?_
            refine jm_iload_n (i := 1) F dX9_buys_35 rfl rfl ?_
            refine jm_iald F dX9_buys_36 la_X9_4 (fun v8 => ?_)
            refine jm_aload_n (i := 0) F dX9_buys_37 rfl rfl ?_
            refine jm_iload_n (i := 2) F dX9_buys_38 rfl rfl ?_
            refine jm_callV (As := [.int p2]) (st := [.int v8]) (rv := fun r => some (.int r)) (mm := fun _ => M) F dX9_buys_39 qX9_292 rfl lo_X9 rfl (fun r h => kM_price E hE h) rfl (Nat.le_of_ble_eq_true rfl) ⟨Nat.le_of_ble_eq_true rfl, Nat.le_of_ble_eq_true rfl⟩ (fun r9 => ?_)
            refine jm_icmp_ge F dX9_buys_42 (fun c10 => ?_) (fun c10 => ?_)
            · refine jm_iconst F dX9_buys_50 kc_0 ?_
              exact jm_weakD F (lv' := [some (.ref (jm_a E 0 0)), some (.int p1), some (.int p2), none]) ⟨rfl, rfl, rfl, trivial⟩ (fun h => h)
            · refine jm_bipush F dX9_buys_45 kb_m3 ?_
              refine jm_goto F dX9_buys_47 ?_
              exact jm_weakD F (lv' := [some (.ref (jm_a E 0 0)), some (.int p1), some (.int p2), none]) ⟨rfl, rfl, rfl, trivial⟩ (fun h => h)
          · refine jm_bipush F dX9_buys_45 kb_m3 ?_
            refine jm_goto F dX9_buys_47 ?_
            exact jm_weakD F (lv' := [some (.ref (jm_a E 0 0)), some (.int p1), some (.int p2), none]) ⟨rfl, rfl, rfl, trivial⟩ (fun h => h)
    · refine jm_istore_n (i := 3) (lv' := [some (.ref (jm_a E 0 0)), some (.int p1), some (.int p2), some (.int e2)]) F dX9_buys_51 rfl (by decide) rfl rfl ?_
      refine jm_iload_n (i := 3) F dX9_buys_52 rfl rfl ?_
      refine jm_if_eq F dX9_buys_53 (fun c11 => ?_) (fun c11 => ?_)
      · refine jm_aload_n (i := 0) F dX9_buys_62 rfl rfl ?_
        refine jm_callV (As := []) (st := []) (rv := fun _ => none) (mm := fun r => r) F dX9_buys_63 qX9_298 rfl lo_X9 rfl (fun r h => kM_remembers E hE h) rfl (Nat.le_of_ble_eq_true rfl) ⟨Nat.le_of_ble_eq_true rfl, Nat.le_of_ble_eq_true rfl⟩ (fun r12 => ?_)
        refine jm_aload_n (i := 0) F dX9_buys_66 rfl rfl ?_
        refine jm_getR F dX9_buys_67 fl_X9_19 lo_X9 rfl ?_
        refine jm_iload_n (i := 1) F dX9_buys_70 rfl rfl ?_
        refine jm_dup2 F dX9_buys_71 rfl rfl ?_
        refine jm_iald F dX9_buys_72 la_X9_4 (fun v13 => ?_)
        refine jm_aload_n (i := 0) F dX9_buys_73 rfl rfl ?_
        refine jm_iload_n (i := 2) F dX9_buys_74 rfl rfl ?_
        refine jm_callV (As := [.int p2]) (st := [.int v13, .int p1, .ref (jm_a E 0 4)]) (rv := fun r => some (.int r)) (mm := fun _ => r12) F dX9_buys_75 qX9_292 rfl lo_X9 rfl (fun r h => kM_price E hE h) rfl (Nat.le_of_ble_eq_true rfl) ⟨Nat.le_of_ble_eq_true rfl, Nat.le_of_ble_eq_true rfl⟩ (fun r14 => ?_)
        refine jm_isub F dX9_buys_78 ?_
        refine jm_iast F dX9_buys_79 la_X9_4 (fun M15 => ?_)
        refine jm_aload_n (i := 0) F dX9_buys_80 rfl rfl ?_
        refine jm_getR F dX9_buys_81 fl_X9_28 lo_X9 rfl ?_
        refine jm_iload_n (i := 2) F dX9_buys_84 rfl rfl ?_
        refine jm_iload_n (i := 1) F dX9_buys_85 rfl rfl ?_
        refine jm_iast F dX9_buys_86 la_X9_7 (fun M16 => ?_)
        refine jm_aload_n (i := 0) F dX9_buys_87 rfl rfl ?_
        refine jm_getR F dX9_buys_88 fl_X9_31 lo_X9 rfl ?_
        refine jm_iload_n (i := 2) F dX9_buys_91 rfl rfl ?_
        refine jm_iload_n (i := 1) F dX9_buys_92 rfl rfl ?_
        refine jm_iast F dX9_buys_93 la_X9_8 (fun M17 => ?_)
        refine jm_aload_n (i := 0) F dX9_buys_94 rfl rfl ?_
        refine jm_getR F dX9_buys_95 fl_X9_19 lo_X9 rfl ?_
        refine jm_iload_n (i := 1) F dX9_buys_98 rfl rfl ?_
        refine jm_iald F dX9_buys_99 la_X9_4 (fun v18 => ?_)
        exact jm_iret F dX9_buys_100 (fun h => h)
      · refine jm_aload_n (i := 0) F dX9_buys_56 rfl rfl ?_
        refine jm_iload_n (i := 3) F dX9_buys_57 rfl rfl ?_
        refine jm_callV (As := [.int e2]) (st := []) (rv := fun r => some (.int r.1)) (mm := fun r => r.2) F dX9_buys_58 qX9_172 rfl lo_X9 rfl (fun r h => kM_no E hE h) rfl (Nat.le_of_ble_eq_true rfl) ⟨Nat.le_of_ble_eq_true rfl, Nat.le_of_ble_eq_true rfl⟩ (fun r19 => ?_)
        exact jm_iret F dX9_buys_61 (fun h => h)
  exact G r h hz
theorem dX9_step_0 : jm_d cX9_step 0 (.iload_n 1) 1 1 := ⟨by decide +kernel, rfl⟩
theorem dX9_step_1 : jm_d cX9_step 1 (.iconst 0) 1 2 := ⟨by decide +kernel, rfl⟩
theorem dX9_step_2 : jm_d cX9_step 2 (.bipush 7) 2 4 := ⟨by decide +kernel, rfl⟩
theorem dX9_step_4 : jm_d cX9_step 4 (.invokestatic 98) 3 7 := ⟨by decide +kernel, rfl⟩
theorem dX9_step_7 : jm_b cX9_step 7 (.ifCond .ne) 10 15 := ⟨8, by decide +kernel, rfl, by decide⟩
theorem dX9_step_10 : jm_d cX9_step 10 (.bipush (-2)) 2 12 := ⟨by decide +kernel, rfl⟩
theorem dX9_step_12 : jm_b cX9_step 12 .goto 15 22 := ⟨10, by decide +kernel, rfl, by decide⟩
theorem dX9_step_15 : jm_d cX9_step 15 (.iload_n 2) 1 16 := ⟨by decide +kernel, rfl⟩
theorem dX9_step_16 : jm_d cX9_step 16 (.iconst 0) 1 17 := ⟨by decide +kernel, rfl⟩
theorem dX9_step_17 : jm_d cX9_step 17 (.bipush 99) 2 19 := ⟨by decide +kernel, rfl⟩
theorem dX9_step_19 : jm_d cX9_step 19 (.invokestatic 166) 3 22 := ⟨by decide +kernel, rfl⟩
theorem dX9_step_22 : jm_d cX9_step 22 (.istore_n 3) 1 23 := ⟨by decide +kernel, rfl⟩
theorem dX9_step_23 : jm_d cX9_step 23 (.iload_n 3) 1 24 := ⟨by decide +kernel, rfl⟩
theorem dX9_step_24 : jm_b cX9_step 24 (.ifCond .ne) 27 39 := ⟨15, by decide +kernel, rfl, by decide⟩
theorem dX9_step_27 : jm_d cX9_step 27 (.aload_n 0) 1 28 := ⟨by decide +kernel, rfl⟩
theorem dX9_step_28 : jm_d cX9_step 28 (.getfield 122) 3 31 := ⟨by decide +kernel, rfl⟩
theorem dX9_step_31 : jm_d cX9_step 31 (.bipush 6) 2 33 := ⟨by decide +kernel, rfl⟩
theorem dX9_step_33 : jm_b cX9_step 33 (.if_icmp .ne) 36 39 := ⟨6, by decide +kernel, rfl, by decide⟩
theorem dX9_step_36 : jm_d cX9_step 36 (.bipush (-6)) 2 38 := ⟨by decide +kernel, rfl⟩
theorem dX9_step_38 : jm_d cX9_step 38 (.istore_n 3) 1 39 := ⟨by decide +kernel, rfl⟩
theorem dX9_step_39 : jm_d cX9_step 39 (.iload_n 3) 1 40 := ⟨by decide +kernel, rfl⟩
theorem dX9_step_40 : jm_b cX9_step 40 (.ifCond .eq) 43 49 := ⟨9, by decide +kernel, rfl, by decide⟩
theorem dX9_step_49 : jm_d cX9_step 49 (.aload_n 0) 1 50 := ⟨by decide +kernel, rfl⟩
theorem dX9_step_50 : jm_d cX9_step 50 (.invokevirtual 298) 3 53 := ⟨by decide +kernel, rfl⟩
theorem dX9_step_53 : jm_d cX9_step 53 (.aload_n 0) 1 54 := ⟨by decide +kernel, rfl⟩
theorem dX9_step_54 : jm_d cX9_step 54 (.getfield 43) 3 57 := ⟨by decide +kernel, rfl⟩
theorem dX9_step_57 : jm_d cX9_step 57 (.aload_n 0) 1 58 := ⟨by decide +kernel, rfl⟩
theorem dX9_step_58 : jm_d cX9_step 58 (.getfield 122) 3 61 := ⟨by decide +kernel, rfl⟩
theorem dX9_step_61 : jm_d cX9_step 61 (.iload_n 1) 1 62 := ⟨by decide +kernel, rfl⟩
theorem dX9_step_62 : jm_d cX9_step 62 (.iastore) 1 63 := ⟨by decide +kernel, rfl⟩
theorem dX9_step_63 : jm_d cX9_step 63 (.aload_n 0) 1 64 := ⟨by decide +kernel, rfl⟩
theorem dX9_step_64 : jm_d cX9_step 64 (.getfield 46) 3 67 := ⟨by decide +kernel, rfl⟩
theorem dX9_step_67 : jm_d cX9_step 67 (.aload_n 0) 1 68 := ⟨by decide +kernel, rfl⟩
theorem dX9_step_68 : jm_d cX9_step 68 (.getfield 122) 3 71 := ⟨by decide +kernel, rfl⟩
theorem dX9_step_71 : jm_d cX9_step 71 (.iload_n 2) 1 72 := ⟨by decide +kernel, rfl⟩
theorem dX9_step_72 : jm_d cX9_step 72 (.iastore) 1 73 := ⟨by decide +kernel, rfl⟩
theorem dX9_step_73 : jm_d cX9_step 73 (.aload_n 0) 1 74 := ⟨by decide +kernel, rfl⟩
theorem dX9_step_74 : jm_d cX9_step 74 (.dup) 1 75 := ⟨by decide +kernel, rfl⟩
theorem dX9_step_75 : jm_d cX9_step 75 (.getfield 122) 3 78 := ⟨by decide +kernel, rfl⟩
theorem dX9_step_78 : jm_d cX9_step 78 (.iconst 1) 1 79 := ⟨by decide +kernel, rfl⟩
theorem dX9_step_79 : jm_d cX9_step 79 (.iadd) 1 80 := ⟨by decide +kernel, rfl⟩
theorem dX9_step_80 : jm_d cX9_step 80 (.putfield 122) 3 83 := ⟨by decide +kernel, rfl⟩
theorem dX9_step_83 : jm_d cX9_step 83 (.aload_n 0) 1 84 := ⟨by decide +kernel, rfl⟩
theorem dX9_step_84 : jm_d cX9_step 84 (.getfield 122) 3 87 := ⟨by decide +kernel, rfl⟩
theorem dX9_step_87 : jm_d cX9_step 87 (.ireturn) 1 88 := ⟨by decide +kernel, rfl⟩
theorem dX9_step_43 : jm_d cX9_step 43 (.aload_n 0) 1 44 := ⟨by decide +kernel, rfl⟩
theorem dX9_step_44 : jm_d cX9_step 44 (.iload_n 3) 1 45 := ⟨by decide +kernel, rfl⟩
theorem dX9_step_45 : jm_d cX9_step 45 (.invokevirtual 172) 3 48 := ⟨by decide +kernel, rfl⟩
theorem dX9_step_48 : jm_d cX9_step 48 (.ireturn) 1 49 := ⟨by decide +kernel, rfl⟩
set_option maxHeartbeats 4000000 in
set_option maxRecDepth 100000 in
theorem kM_step (E : jm_Ev) (hE : jm_dj E jm_LM) {M : jm_M} {p1 : Int32} {p2 : Int32}  {r : Int32 × jm_M} (h : sM_step M p1 p2 = some r) : jm_Ct E jm_LM yX9_step cX9_step 4 (some .int) 3 64 [.ref (jm_a E 0 0), .int p1, .int p2] M (some (.int r.1)) r.2 := by
  refine jm_enter (lv := [some (.ref (jm_a E 0 0)), some (.int p1), some (.int p2), none]) hE (by decide) (Nat.le_of_ble_eq_true rfl) rfl ?_
  intro z w F hz
  have G : jm_G w 0 [some (.ref (jm_a E 0 0)), some (.int p1), some (.int p2), none] [] M (sM_step M p1 p2) (fun e => z (some (.int e.1)) e.2) := by
    unfold sM_step
    refine jm_iload_n (i := 1) F dX9_step_0 rfl rfl ?_
    refine jm_iconst F dX9_step_1 kc_0 ?_
    refine jm_bipush F dX9_step_2 kb_7 ?_
    refine jm_callS (As := [.int p1, .int 0, .int 7]) (st := []) (rv := fun r => some (.int r)) (mm := fun _ => M) F dX9_step_4 qX9_98 rfl (fun r h => kM_isIn E hE h) rfl (Nat.le_of_ble_eq_true rfl) ⟨Nat.le_of_ble_eq_true rfl, Nat.le_of_ble_eq_true rfl⟩ (fun r1 => ?_)
    refine jm_bind (pcJ := 22) (lvJ := fun e2 => [some (.ref (jm_a E 0 0)), some (.int p1), some (.int p2), none]) (stJ := fun e2 => [.int e2]) (MJ := fun e2 => M) ?_ (fun e2 => ?_)
    · refine jm_if_ne F dX9_step_7 (fun c3 => ?_) (fun c3 => ?_)
      · refine jm_bipush F dX9_step_10 kb_m2 ?_
        refine jm_goto F dX9_step_12 ?_
        exact jm_weakD F (lv' := [some (.ref (jm_a E 0 0)), some (.int p1), some (.int p2), none]) ⟨rfl, rfl, rfl, trivial⟩ (fun h => h)
      · refine jm_iload_n (i := 2) F dX9_step_15 rfl rfl ?_
        refine jm_iconst F dX9_step_16 kc_0 ?_
        refine jm_bipush F dX9_step_17 kb_99 ?_
        refine jm_callS (As := [.int p2, .int 0, .int 99]) (st := []) (rv := fun r => some (.int r)) (mm := fun _ => M) F dX9_step_19 qX9_166 rfl (fun r h => kM_bound E hE h) rfl (Nat.le_of_ble_eq_true rfl) ⟨Nat.le_of_ble_eq_true rfl, Nat.le_of_ble_eq_true rfl⟩ (fun r4 => ?_)
        exact jm_weakD F (lv' := [some (.ref (jm_a E 0 0)), some (.int p1), some (.int p2), none]) ⟨rfl, rfl, rfl, trivial⟩ (fun h => h)
    · refine jm_istore_n (i := 3) (lv' := [some (.ref (jm_a E 0 0)), some (.int p1), some (.int p2), some (.int e2)]) F dX9_step_22 rfl (by decide) rfl rfl ?_
      refine jm_iload_n (i := 3) F dX9_step_23 rfl rfl ?_
      refine jm_bind (pcJ := 39) (lvJ := fun e5 => [some (.ref (jm_a E 0 0)), some (.int p1), some (.int p2), some (.int e5)]) (stJ := fun e5 => []) (MJ := fun e5 => M) ?_ (fun e5 => ?_)
      · refine jm_if_ne F dX9_step_24 (fun c6 => ?_) (fun c6 => ?_)
        · refine jm_aload_n (i := 0) F dX9_step_27 rfl rfl ?_
          refine jm_getI F dX9_step_28 fl_X9_122 lo_X9 rfl ?_
          refine jm_bipush F dX9_step_31 kb_6 ?_
          refine jm_icmp_ne F dX9_step_33 (fun c7 => ?_) (fun c7 => ?_)
          · refine jm_bipush F dX9_step_36 kb_m6 ?_
            refine jm_istore_n (i := 3) (lv' := [some (.ref (jm_a E 0 0)), some (.int p1), some (.int p2), some (.int (-6))]) F dX9_step_38 rfl (by decide) rfl rfl ?_
            exact jm_weakD F (lv' := [some (.ref (jm_a E 0 0)), some (.int p1), some (.int p2), some (.int (-6))]) ⟨rfl, rfl, rfl, rfl, trivial⟩ (fun h => h)
          · exact jm_weakD F (lv' := [some (.ref (jm_a E 0 0)), some (.int p1), some (.int p2), some (.int e2)]) ⟨rfl, rfl, rfl, rfl, trivial⟩ (fun h => h)
        · exact jm_weakD F (lv' := [some (.ref (jm_a E 0 0)), some (.int p1), some (.int p2), some (.int e2)]) ⟨rfl, rfl, rfl, rfl, trivial⟩ (fun h => h)
      · refine jm_iload_n (i := 3) F dX9_step_39 rfl rfl ?_
        refine jm_if_eq F dX9_step_40 (fun c8 => ?_) (fun c8 => ?_)
        · refine jm_aload_n (i := 0) F dX9_step_49 rfl rfl ?_
          refine jm_callV (As := []) (st := []) (rv := fun _ => none) (mm := fun r => r) F dX9_step_50 qX9_298 rfl lo_X9 rfl (fun r h => kM_remembers E hE h) rfl (Nat.le_of_ble_eq_true rfl) ⟨Nat.le_of_ble_eq_true rfl, Nat.le_of_ble_eq_true rfl⟩ (fun r9 => ?_)
          refine jm_aload_n (i := 0) F dX9_step_53 rfl rfl ?_
          refine jm_getR F dX9_step_54 fl_X9_43 lo_X9 rfl ?_
          refine jm_aload_n (i := 0) F dX9_step_57 rfl rfl ?_
          refine jm_getI F dX9_step_58 fl_X9_122 lo_X9 rfl ?_
          refine jm_iload_n (i := 1) F dX9_step_61 rfl rfl ?_
          refine jm_iast F dX9_step_62 la_X9_12 (fun M10 => ?_)
          refine jm_aload_n (i := 0) F dX9_step_63 rfl rfl ?_
          refine jm_getR F dX9_step_64 fl_X9_46 lo_X9 rfl ?_
          refine jm_aload_n (i := 0) F dX9_step_67 rfl rfl ?_
          refine jm_getI F dX9_step_68 fl_X9_122 lo_X9 rfl ?_
          refine jm_iload_n (i := 2) F dX9_step_71 rfl rfl ?_
          refine jm_iast F dX9_step_72 la_X9_13 (fun M11 => ?_)
          refine jm_aload_n (i := 0) F dX9_step_73 rfl rfl ?_
          refine jm_dup F dX9_step_74 rfl ?_
          refine jm_getI F dX9_step_75 fl_X9_122 lo_X9 rfl ?_
          refine jm_iconst F dX9_step_78 kc_1 ?_
          refine jm_iadd F dX9_step_79 ?_
          refine jm_putI F dX9_step_80 fp_X9_122 lo_X9 rfl (fun M12 => ?_)
          refine jm_aload_n (i := 0) F dX9_step_83 rfl rfl ?_
          refine jm_getI F dX9_step_84 fl_X9_122 lo_X9 rfl ?_
          exact jm_iret F dX9_step_87 (fun h => h)
        · refine jm_aload_n (i := 0) F dX9_step_43 rfl rfl ?_
          refine jm_iload_n (i := 3) F dX9_step_44 rfl rfl ?_
          refine jm_callV (As := [.int e5]) (st := []) (rv := fun r => some (.int r.1)) (mm := fun r => r.2) F dX9_step_45 qX9_172 rfl lo_X9 rfl (fun r h => kM_no E hE h) rfl (Nat.le_of_ble_eq_true rfl) ⟨Nat.le_of_ble_eq_true rfl, Nat.le_of_ble_eq_true rfl⟩ (fun r13 => ?_)
          exact jm_iret F dX9_step_48 (fun h => h)
  exact G r h hz
theorem dX9_clearLaw_0 : jm_d cX9_clearLaw 0 (.aload_n 0) 1 1 := ⟨by decide +kernel, rfl⟩
theorem dX9_clearLaw_1 : jm_d cX9_clearLaw 1 (.invokevirtual 298) 3 4 := ⟨by decide +kernel, rfl⟩
theorem dX9_clearLaw_4 : jm_d cX9_clearLaw 4 (.aload_n 0) 1 5 := ⟨by decide +kernel, rfl⟩
theorem dX9_clearLaw_5 : jm_d cX9_clearLaw 5 (.getfield 122) 3 8 := ⟨by decide +kernel, rfl⟩
theorem dX9_clearLaw_8 : jm_d cX9_clearLaw 8 (.istore_n 1) 1 9 := ⟨by decide +kernel, rfl⟩
theorem dX9_clearLaw_9 : jm_d cX9_clearLaw 9 (.aload_n 0) 1 10 := ⟨by decide +kernel, rfl⟩
theorem dX9_clearLaw_10 : jm_d cX9_clearLaw 10 (.iconst 0) 1 11 := ⟨by decide +kernel, rfl⟩
theorem dX9_clearLaw_11 : jm_d cX9_clearLaw 11 (.putfield 122) 3 14 := ⟨by decide +kernel, rfl⟩
theorem dX9_clearLaw_14 : jm_d cX9_clearLaw 14 (.iload_n 1) 1 15 := ⟨by decide +kernel, rfl⟩
theorem dX9_clearLaw_15 : jm_d cX9_clearLaw 15 (.ireturn) 1 16 := ⟨by decide +kernel, rfl⟩
set_option maxHeartbeats 4000000 in
set_option maxRecDepth 100000 in
theorem kM_clearLaw (E : jm_Ev) (hE : jm_dj E jm_LM) {M : jm_M}  {r : Int32 × jm_M} (h : sM_clearLaw M = some r) : jm_Ct E jm_LM yX9_clearLaw cX9_clearLaw 2 (some .int) 3 64 [.ref (jm_a E 0 0)] M (some (.int r.1)) r.2 := by
  refine jm_enter (lv := [some (.ref (jm_a E 0 0)), none]) hE (by decide) (Nat.le_of_ble_eq_true rfl) rfl ?_
  intro z w F hz
  have G : jm_G w 0 [some (.ref (jm_a E 0 0)), none] [] M (sM_clearLaw M) (fun e => z (some (.int e.1)) e.2) := by
    unfold sM_clearLaw
    refine jm_aload_n (i := 0) F dX9_clearLaw_0 rfl rfl ?_
    refine jm_callV (As := []) (st := []) (rv := fun _ => none) (mm := fun r => r) F dX9_clearLaw_1 qX9_298 rfl lo_X9 rfl (fun r h => kM_remembers E hE h) rfl (Nat.le_of_ble_eq_true rfl) ⟨Nat.le_of_ble_eq_true rfl, Nat.le_of_ble_eq_true rfl⟩ (fun r1 => ?_)
    refine jm_aload_n (i := 0) F dX9_clearLaw_4 rfl rfl ?_
    refine jm_getI F dX9_clearLaw_5 fl_X9_122 lo_X9 rfl ?_
    refine jm_nameI (f := fun x2 => [.int x2]) (fun x2 => ?_) rfl
    refine jm_istore_n (i := 1) (lv' := [some (.ref (jm_a E 0 0)), some (.int x2)]) F dX9_clearLaw_8 rfl (by decide) rfl rfl ?_
    refine jm_aload_n (i := 0) F dX9_clearLaw_9 rfl rfl ?_
    refine jm_iconst F dX9_clearLaw_10 kc_0 ?_
    refine jm_putI F dX9_clearLaw_11 fp_X9_122 lo_X9 rfl (fun M3 => ?_)
    refine jm_iload_n (i := 1) F dX9_clearLaw_14 rfl rfl ?_
    exact jm_iret F dX9_clearLaw_15 (fun h => h)
  exact G r h hz
theorem dX9_weeks_0 : jm_d cX9_weeks 0 (.iload_n 1) 1 1 := ⟨by decide +kernel, rfl⟩
theorem dX9_weeks_1 : jm_d cX9_weeks 1 (.iconst 1) 1 2 := ⟨by decide +kernel, rfl⟩
theorem dX9_weeks_2 : jm_d cX9_weeks 2 (.bipush 60) 2 4 := ⟨by decide +kernel, rfl⟩
theorem dX9_weeks_4 : jm_d cX9_weeks 4 (.invokestatic 166) 3 7 := ⟨by decide +kernel, rfl⟩
theorem dX9_weeks_7 : jm_d cX9_weeks 7 (.istore_n 2) 1 8 := ⟨by decide +kernel, rfl⟩
theorem dX9_weeks_8 : jm_d cX9_weeks 8 (.iload_n 2) 1 9 := ⟨by decide +kernel, rfl⟩
theorem dX9_weeks_9 : jm_b cX9_weeks 9 (.ifCond .ne) 12 27 := ⟨18, by decide +kernel, rfl, by decide⟩
theorem dX9_weeks_12 : jm_d cX9_weeks 12 (.aload_n 0) 1 13 := ⟨by decide +kernel, rfl⟩
theorem dX9_weeks_13 : jm_d cX9_weeks 13 (.getfield 116) 3 16 := ⟨by decide +kernel, rfl⟩
theorem dX9_weeks_16 : jm_d cX9_weeks 16 (.iload_n 1) 1 17 := ⟨by decide +kernel, rfl⟩
theorem dX9_weeks_17 : jm_d cX9_weeks 17 (.iadd) 1 18 := ⟨by decide +kernel, rfl⟩
theorem dX9_weeks_18 : jm_d cX9_weeks 18 (.sipush 999) 3 21 := ⟨by decide +kernel, rfl⟩
theorem dX9_weeks_21 : jm_b cX9_weeks 21 (.if_icmp .le) 24 27 := ⟨6, by decide +kernel, rfl, by decide⟩
theorem dX9_weeks_24 : jm_d cX9_weeks 24 (.bipush (-6)) 2 26 := ⟨by decide +kernel, rfl⟩
theorem dX9_weeks_26 : jm_d cX9_weeks 26 (.istore_n 2) 1 27 := ⟨by decide +kernel, rfl⟩
theorem dX9_weeks_27 : jm_d cX9_weeks 27 (.iload_n 2) 1 28 := ⟨by decide +kernel, rfl⟩
theorem dX9_weeks_28 : jm_b cX9_weeks 28 (.ifCond .eq) 31 37 := ⟨9, by decide +kernel, rfl, by decide⟩
theorem dX9_weeks_37 : jm_d cX9_weeks 37 (.aload_n 0) 1 38 := ⟨by decide +kernel, rfl⟩
theorem dX9_weeks_38 : jm_d cX9_weeks 38 (.invokevirtual 298) 3 41 := ⟨by decide +kernel, rfl⟩
theorem dX9_weeks_41 : jm_d cX9_weeks 41 (.aload_n 0) 1 42 := ⟨by decide +kernel, rfl⟩
theorem dX9_weeks_42 : jm_d cX9_weeks 42 (.iload_n 1) 1 43 := ⟨by decide +kernel, rfl⟩
theorem dX9_weeks_43 : jm_d cX9_weeks 43 (.invokevirtual 229) 3 46 := ⟨by decide +kernel, rfl⟩
theorem dX9_weeks_46 : jm_d cX9_weeks 46 (.aload_n 0) 1 47 := ⟨by decide +kernel, rfl⟩
theorem dX9_weeks_47 : jm_d cX9_weeks 47 (.getfield 116) 3 50 := ⟨by decide +kernel, rfl⟩
theorem dX9_weeks_50 : jm_d cX9_weeks 50 (.ireturn) 1 51 := ⟨by decide +kernel, rfl⟩
theorem dX9_weeks_31 : jm_d cX9_weeks 31 (.aload_n 0) 1 32 := ⟨by decide +kernel, rfl⟩
theorem dX9_weeks_32 : jm_d cX9_weeks 32 (.iload_n 2) 1 33 := ⟨by decide +kernel, rfl⟩
theorem dX9_weeks_33 : jm_d cX9_weeks 33 (.invokevirtual 172) 3 36 := ⟨by decide +kernel, rfl⟩
theorem dX9_weeks_36 : jm_d cX9_weeks 36 (.ireturn) 1 37 := ⟨by decide +kernel, rfl⟩
set_option maxHeartbeats 4000000 in
set_option maxRecDepth 100000 in
theorem kM_weeks (E : jm_Ev) (hE : jm_dj E jm_LM) {M : jm_M} {p1 : Int32}  {r : Int32 × jm_M} (h : sM_weeks M p1 = some r) : jm_Ct E jm_LM yX9_weeks cX9_weeks 3 (some .int) 5 113 [.ref (jm_a E 0 0), .int p1] M (some (.int r.1)) r.2 := by
  refine jm_enter (lv := [some (.ref (jm_a E 0 0)), some (.int p1), none]) hE (by decide) (Nat.le_of_ble_eq_true rfl) rfl ?_
  intro z w F hz
  have G : jm_G w 0 [some (.ref (jm_a E 0 0)), some (.int p1), none] [] M (sM_weeks M p1) (fun e => z (some (.int e.1)) e.2) := by
    unfold sM_weeks
    refine jm_iload_n (i := 1) F dX9_weeks_0 rfl rfl ?_
    refine jm_iconst F dX9_weeks_1 kc_1 ?_
    refine jm_bipush F dX9_weeks_2 kb_60 ?_
    refine jm_callS (As := [.int p1, .int 1, .int 60]) (st := []) (rv := fun r => some (.int r)) (mm := fun _ => M) F dX9_weeks_4 qX9_166 rfl (fun r h => kM_bound E hE h) rfl (Nat.le_of_ble_eq_true rfl) ⟨Nat.le_of_ble_eq_true rfl, Nat.le_of_ble_eq_true rfl⟩ (fun r1 => ?_)
    refine jm_istore_n (i := 2) (lv' := [some (.ref (jm_a E 0 0)), some (.int p1), some (.int r1)]) F dX9_weeks_7 rfl (by decide) rfl rfl ?_
    refine jm_iload_n (i := 2) F dX9_weeks_8 rfl rfl ?_
    refine jm_bind (pcJ := 27) (lvJ := fun e2 => [some (.ref (jm_a E 0 0)), some (.int p1), some (.int e2)]) (stJ := fun e2 => []) (MJ := fun e2 => M) ?_ (fun e2 => ?_)
    · refine jm_if_ne F dX9_weeks_9 (fun c3 => ?_) (fun c3 => ?_)
      · refine jm_aload_n (i := 0) F dX9_weeks_12 rfl rfl ?_
        refine jm_getI F dX9_weeks_13 fl_X9_116 lo_X9 rfl ?_
        refine jm_iload_n (i := 1) F dX9_weeks_16 rfl rfl ?_
        refine jm_iadd F dX9_weeks_17 ?_
        refine jm_sipush F dX9_weeks_18 ks_999 ?_
        refine jm_icmp_le F dX9_weeks_21 (fun c4 => ?_) (fun c4 => ?_)
        · exact jm_weakD F (lv' := [some (.ref (jm_a E 0 0)), some (.int p1), some (.int r1)]) ⟨rfl, rfl, rfl, trivial⟩ (fun h => h)
        · refine jm_bipush F dX9_weeks_24 kb_m6 ?_
          refine jm_istore_n (i := 2) (lv' := [some (.ref (jm_a E 0 0)), some (.int p1), some (.int (-6))]) F dX9_weeks_26 rfl (by decide) rfl rfl ?_
          exact jm_weakD F (lv' := [some (.ref (jm_a E 0 0)), some (.int p1), some (.int (-6))]) ⟨rfl, rfl, rfl, trivial⟩ (fun h => h)
      · exact jm_weakD F (lv' := [some (.ref (jm_a E 0 0)), some (.int p1), some (.int r1)]) ⟨rfl, rfl, rfl, trivial⟩ (fun h => h)
    · refine jm_iload_n (i := 2) F dX9_weeks_27 rfl rfl ?_
      refine jm_if_eq F dX9_weeks_28 (fun c5 => ?_) (fun c5 => ?_)
      · refine jm_aload_n (i := 0) F dX9_weeks_37 rfl rfl ?_
        refine jm_callV (As := []) (st := []) (rv := fun _ => none) (mm := fun r => r) F dX9_weeks_38 qX9_298 rfl lo_X9 rfl (fun r h => kM_remembers E hE h) rfl (Nat.le_of_ble_eq_true rfl) ⟨Nat.le_of_ble_eq_true rfl, Nat.le_of_ble_eq_true rfl⟩ (fun r6 => ?_)
        refine jm_aload_n (i := 0) F dX9_weeks_41 rfl rfl ?_
        refine jm_iload_n (i := 1) F dX9_weeks_42 rfl rfl ?_
        refine jm_callV (As := [.int p1]) (st := []) (rv := fun _ => none) (mm := fun r => r) F dX9_weeks_43 qX9_229 rfl lo_X9 rfl (fun r h => kM_goes E hE h) rfl (Nat.le_of_ble_eq_true rfl) ⟨Nat.le_of_ble_eq_true rfl, Nat.le_of_ble_eq_true rfl⟩ (fun r7 => ?_)
        refine jm_aload_n (i := 0) F dX9_weeks_46 rfl rfl ?_
        refine jm_getI F dX9_weeks_47 fl_X9_116 lo_X9 rfl ?_
        exact jm_iret F dX9_weeks_50 (fun h => h)
      · refine jm_aload_n (i := 0) F dX9_weeks_31 rfl rfl ?_
        refine jm_iload_n (i := 2) F dX9_weeks_32 rfl rfl ?_
        refine jm_callV (As := [.int e2]) (st := []) (rv := fun r => some (.int r.1)) (mm := fun r => r.2) F dX9_weeks_33 qX9_172 rfl lo_X9 rfl (fun r h => kM_no E hE h) rfl (Nat.le_of_ble_eq_true rfl) ⟨Nat.le_of_ble_eq_true rfl, Nat.le_of_ble_eq_true rfl⟩ (fun r8 => ?_)
        exact jm_iret F dX9_weeks_36 (fun h => h)
  exact G r h hz
theorem dX9_over_0 : jm_d cX9_over 0 (.aload_n 0) 1 1 := ⟨by decide +kernel, rfl⟩
theorem dX9_over_1 : jm_d cX9_over 1 (.iload_n 1) 1 2 := ⟨by decide +kernel, rfl⟩
theorem dX9_over_2 : jm_d cX9_over 2 (.iload_n 2) 1 3 := ⟨by decide +kernel, rfl⟩
theorem dX9_over_3 : jm_d cX9_over 3 (.invokevirtual 301) 3 6 := ⟨by decide +kernel, rfl⟩
theorem dX9_over_6 : jm_b cX9_over 6 (.ifCond .eq) 9 18 := ⟨12, by decide +kernel, rfl, by decide⟩
theorem dX9_over_18 : jm_d cX9_over 18 (.aload_n 0) 1 19 := ⟨by decide +kernel, rfl⟩
theorem dX9_over_19 : jm_d cX9_over 19 (.iconst (-1)) 1 20 := ⟨by decide +kernel, rfl⟩
theorem dX9_over_20 : jm_d cX9_over 20 (.invokevirtual 304) 3 23 := ⟨by decide +kernel, rfl⟩
theorem dX9_over_23 : jm_d cX9_over 23 (.ireturn) 1 24 := ⟨by decide +kernel, rfl⟩
theorem dX9_over_9 : jm_d cX9_over 9 (.aload_n 0) 1 10 := ⟨by decide +kernel, rfl⟩
theorem dX9_over_10 : jm_d cX9_over 10 (.iload_n 1) 1 11 := ⟨by decide +kernel, rfl⟩
theorem dX9_over_11 : jm_d cX9_over 11 (.iload_n 2) 1 12 := ⟨by decide +kernel, rfl⟩
theorem dX9_over_12 : jm_d cX9_over 12 (.invokevirtual 142) 3 15 := ⟨by decide +kernel, rfl⟩
theorem dX9_over_15 : jm_b cX9_over 15 .goto 18 23 := ⟨8, by decide +kernel, rfl, by decide⟩
set_option maxHeartbeats 4000000 in
set_option maxRecDepth 100000 in
theorem kM_over (E : jm_Ev) (hE : jm_dj E jm_LM) {M : jm_M} {p1 : Int32} {p2 : Int32}  {r : Int32 × jm_M} (h : sM_over M p1 p2 = some r) : jm_Ct E jm_LM yX9_over cX9_over 3 (some .int) 6 140 [.ref (jm_a E 0 0), .int p1, .int p2] M (some (.int r.1)) r.2 := by
  refine jm_enter (lv := [some (.ref (jm_a E 0 0)), some (.int p1), some (.int p2)]) hE (by decide) (Nat.le_of_ble_eq_true rfl) rfl ?_
  intro z w F hz
  have G : jm_G w 0 [some (.ref (jm_a E 0 0)), some (.int p1), some (.int p2)] [] M (sM_over M p1 p2) (fun e => z (some (.int e.1)) e.2) := by
    unfold sM_over
    refine jm_aload_n (i := 0) F dX9_over_0 rfl rfl ?_
    refine jm_iload_n (i := 1) F dX9_over_1 rfl rfl ?_
    refine jm_iload_n (i := 2) F dX9_over_2 rfl rfl ?_
    refine jm_callV (As := [.int p1, .int p2]) (st := []) (rv := fun r => some (.int r)) (mm := fun _ => M) F dX9_over_3 qX9_301 rfl lo_X9 rfl (fun r h => kM_areTwo E hE h) rfl (Nat.le_of_ble_eq_true rfl) ⟨Nat.le_of_ble_eq_true rfl, Nat.le_of_ble_eq_true rfl⟩ (fun r1 => ?_)
    refine jm_if_eq F dX9_over_6 (fun c2 => ?_) (fun c2 => ?_)
    · refine jm_aload_n (i := 0) F dX9_over_18 rfl rfl ?_
      refine jm_iconst F dX9_over_19 kc_m1 ?_
      refine jm_callV (As := [.int (-1)]) (st := []) (rv := fun r => some (.int r.1)) (mm := fun r => r.2) F dX9_over_20 qX9_304 rfl lo_X9 rfl (fun r h => kM_lower E hE h) rfl (Nat.le_of_ble_eq_true rfl) ⟨Nat.le_of_ble_eq_true rfl, Nat.le_of_ble_eq_true rfl⟩ (fun r3 => ?_)
      exact jm_iret F dX9_over_23 (fun h => h)
    · refine jm_aload_n (i := 0) F dX9_over_9 rfl rfl ?_
      refine jm_iload_n (i := 1) F dX9_over_10 rfl rfl ?_
      refine jm_iload_n (i := 2) F dX9_over_11 rfl rfl ?_
      refine jm_callV (As := [.int p1, .int p2]) (st := []) (rv := fun r => some (.int r)) (mm := fun _ => M) F dX9_over_12 qX9_142 rfl lo_X9 rfl (fun r h => kM_overNow E hE h) rfl (Nat.le_of_ble_eq_true rfl) ⟨Nat.le_of_ble_eq_true rfl, Nat.le_of_ble_eq_true rfl⟩ (fun r4 => ?_)
      refine jm_goto F dX9_over_15 ?_
      exact jm_iret F dX9_over_23 (fun h => h)
  exact G r h hz
theorem dX9_pan_0 : jm_d cX9_pan 0 (.aload_n 0) 1 1 := ⟨by decide +kernel, rfl⟩
theorem dX9_pan_1 : jm_d cX9_pan 1 (.iload_n 1) 1 2 := ⟨by decide +kernel, rfl⟩
theorem dX9_pan_2 : jm_d cX9_pan 2 (.iload_n 2) 1 3 := ⟨by decide +kernel, rfl⟩
theorem dX9_pan_3 : jm_d cX9_pan 3 (.invokevirtual 301) 3 6 := ⟨by decide +kernel, rfl⟩
theorem dX9_pan_6 : jm_b cX9_pan 6 (.ifCond .eq) 9 27 := ⟨21, by decide +kernel, rfl, by decide⟩
theorem dX9_pan_27 : jm_d cX9_pan 27 (.aload_n 0) 1 28 := ⟨by decide +kernel, rfl⟩
theorem dX9_pan_28 : jm_d cX9_pan 28 (.iconst (-1)) 1 29 := ⟨by decide +kernel, rfl⟩
theorem dX9_pan_29 : jm_d cX9_pan 29 (.invokevirtual 172) 3 32 := ⟨by decide +kernel, rfl⟩
theorem dX9_pan_32 : jm_d cX9_pan 32 (.ireturn) 1 33 := ⟨by decide +kernel, rfl⟩
theorem dX9_pan_9 : jm_d cX9_pan 9 (.aload_n 0) 1 10 := ⟨by decide +kernel, rfl⟩
theorem dX9_pan_10 : jm_d cX9_pan 10 (.iload_n 3) 1 11 := ⟨by decide +kernel, rfl⟩
theorem dX9_pan_11 : jm_d cX9_pan 11 (.invokevirtual 289) 3 14 := ⟨by decide +kernel, rfl⟩
theorem dX9_pan_14 : jm_b cX9_pan 14 (.ifCond .eq) 17 27 := ⟨13, by decide +kernel, rfl, by decide⟩
theorem dX9_pan_17 : jm_d cX9_pan 17 (.aload_n 0) 1 18 := ⟨by decide +kernel, rfl⟩
theorem dX9_pan_18 : jm_d cX9_pan 18 (.iload_n 3) 1 19 := ⟨by decide +kernel, rfl⟩
theorem dX9_pan_19 : jm_d cX9_pan 19 (.iload_n 1) 1 20 := ⟨by decide +kernel, rfl⟩
theorem dX9_pan_20 : jm_d cX9_pan 20 (.iload_n 2) 1 21 := ⟨by decide +kernel, rfl⟩
theorem dX9_pan_21 : jm_d cX9_pan 21 (.invokevirtual 136) 3 24 := ⟨by decide +kernel, rfl⟩
theorem dX9_pan_24 : jm_b cX9_pan 24 .goto 27 32 := ⟨8, by decide +kernel, rfl, by decide⟩
set_option maxHeartbeats 4000000 in
set_option maxRecDepth 100000 in
theorem kM_pan (E : jm_Ev) (hE : jm_dj E jm_LM) {M : jm_M} {p1 : Int32} {p2 : Int32} {p3 : Int32}  {r : Int32 × jm_M} (h : sM_pan M p1 p2 p3 = some r) : jm_Ct E jm_LM yX9_pan cX9_pan 4 (some .int) 4 93 [.ref (jm_a E 0 0), .int p1, .int p2, .int p3] M (some (.int r.1)) r.2 := by
  refine jm_enter (lv := [some (.ref (jm_a E 0 0)), some (.int p1), some (.int p2), some (.int p3)]) hE (by decide) (Nat.le_of_ble_eq_true rfl) rfl ?_
  intro z w F hz
  have G : jm_G w 0 [some (.ref (jm_a E 0 0)), some (.int p1), some (.int p2), some (.int p3)] [] M (sM_pan M p1 p2 p3) (fun e => z (some (.int e.1)) e.2) := by
    unfold sM_pan
    refine jm_aload_n (i := 0) F dX9_pan_0 rfl rfl ?_
    refine jm_iload_n (i := 1) F dX9_pan_1 rfl rfl ?_
    refine jm_iload_n (i := 2) F dX9_pan_2 rfl rfl ?_
    refine jm_callV (As := [.int p1, .int p2]) (st := []) (rv := fun r => some (.int r)) (mm := fun _ => M) F dX9_pan_3 qX9_301 rfl lo_X9 rfl (fun r h => kM_areTwo E hE h) rfl (Nat.le_of_ble_eq_true rfl) ⟨Nat.le_of_ble_eq_true rfl, Nat.le_of_ble_eq_true rfl⟩ (fun r1 => ?_)
    refine jm_if_eq F dX9_pan_6 (fun c2 => ?_) (fun c2 => ?_)
    · refine jm_aload_n (i := 0) F dX9_pan_27 rfl rfl ?_
      refine jm_iconst F dX9_pan_28 kc_m1 ?_
      refine jm_callV (As := [.int (-1)]) (st := []) (rv := fun r => some (.int r.1)) (mm := fun r => r.2) F dX9_pan_29 qX9_172 rfl lo_X9 rfl (fun r h => kM_no E hE h) rfl (Nat.le_of_ble_eq_true rfl) ⟨Nat.le_of_ble_eq_true rfl, Nat.le_of_ble_eq_true rfl⟩ (fun r3 => ?_)
      exact jm_iret F dX9_pan_32 (fun h => h)
    · refine jm_aload_n (i := 0) F dX9_pan_9 rfl rfl ?_
      refine jm_iload_n (i := 3) F dX9_pan_10 rfl rfl ?_
      refine jm_callV (As := [.int p3]) (st := []) (rv := fun r => some (.int r)) (mm := fun _ => M) F dX9_pan_11 qX9_289 rfl lo_X9 rfl (fun r h => kM_isBook E hE h) rfl (Nat.le_of_ble_eq_true rfl) ⟨Nat.le_of_ble_eq_true rfl, Nat.le_of_ble_eq_true rfl⟩ (fun r4 => ?_)
      refine jm_if_eq F dX9_pan_14 (fun c5 => ?_) (fun c5 => ?_)
      · refine jm_aload_n (i := 0) F dX9_pan_27 rfl rfl ?_
        refine jm_iconst F dX9_pan_28 kc_m1 ?_
        refine jm_callV (As := [.int (-1)]) (st := []) (rv := fun r => some (.int r.1)) (mm := fun r => r.2) F dX9_pan_29 qX9_172 rfl lo_X9 rfl (fun r h => kM_no E hE h) rfl (Nat.le_of_ble_eq_true rfl) ⟨Nat.le_of_ble_eq_true rfl, Nat.le_of_ble_eq_true rfl⟩ (fun r6 => ?_)
        exact jm_iret F dX9_pan_32 (fun h => h)
      · refine jm_aload_n (i := 0) F dX9_pan_17 rfl rfl ?_
        refine jm_iload_n (i := 3) F dX9_pan_18 rfl rfl ?_
        refine jm_iload_n (i := 1) F dX9_pan_19 rfl rfl ?_
        refine jm_iload_n (i := 2) F dX9_pan_20 rfl rfl ?_
        refine jm_callV (As := [.int p3, .int p1, .int p2]) (st := []) (rv := fun r => some (.int r)) (mm := fun _ => M) F dX9_pan_21 qX9_136 rfl lo_X9 rfl (fun r h => kM_comesTo E hE h) rfl (Nat.le_of_ble_eq_true rfl) ⟨Nat.le_of_ble_eq_true rfl, Nat.le_of_ble_eq_true rfl⟩ (fun r7 => ?_)
        refine jm_goto F dX9_pan_24 ?_
        exact jm_iret F dX9_pan_32 (fun h => h)
  exact G r h hz
theorem dX9_overThen_0 : jm_d cX9_overThen 0 (.aload_n 0) 1 1 := ⟨by decide +kernel, rfl⟩
theorem dX9_overThen_1 : jm_d cX9_overThen 1 (.iload_n 1) 1 2 := ⟨by decide +kernel, rfl⟩
theorem dX9_overThen_2 : jm_d cX9_overThen 2 (.iload_n 2) 1 3 := ⟨by decide +kernel, rfl⟩
theorem dX9_overThen_3 : jm_d cX9_overThen 3 (.invokevirtual 301) 3 6 := ⟨by decide +kernel, rfl⟩
theorem dX9_overThen_6 : jm_b cX9_overThen 6 (.ifCond .ne) 9 13 := ⟨7, by decide +kernel, rfl, by decide⟩
theorem dX9_overThen_9 : jm_d cX9_overThen 9 (.iconst (-1)) 1 10 := ⟨by decide +kernel, rfl⟩
theorem dX9_overThen_10 : jm_b cX9_overThen 10 .goto 13 20 := ⟨10, by decide +kernel, rfl, by decide⟩
theorem dX9_overThen_13 : jm_d cX9_overThen 13 (.iload_n 3) 1 14 := ⟨by decide +kernel, rfl⟩
theorem dX9_overThen_14 : jm_d cX9_overThen 14 (.iconst 0) 1 15 := ⟨by decide +kernel, rfl⟩
theorem dX9_overThen_15 : jm_d cX9_overThen 15 (.bipush 60) 2 17 := ⟨by decide +kernel, rfl⟩
theorem dX9_overThen_17 : jm_d cX9_overThen 17 (.invokestatic 166) 3 20 := ⟨by decide +kernel, rfl⟩
theorem dX9_overThen_20 : jm_d cX9_overThen 20 (.istore 4) 2 22 := ⟨by decide +kernel, rfl⟩
theorem dX9_overThen_22 : jm_d cX9_overThen 22 (.iload 4) 2 24 := ⟨by decide +kernel, rfl⟩
theorem dX9_overThen_24 : jm_b cX9_overThen 24 (.ifCond .eq) 27 34 := ⟨10, by decide +kernel, rfl, by decide⟩
theorem dX9_overThen_34 : jm_d cX9_overThen 34 (.aload_n 0) 1 35 := ⟨by decide +kernel, rfl⟩
theorem dX9_overThen_35 : jm_d cX9_overThen 35 (.invokevirtual 307) 3 38 := ⟨by decide +kernel, rfl⟩
theorem dX9_overThen_38 : jm_d cX9_overThen 38 (.aload_n 0) 1 39 := ⟨by decide +kernel, rfl⟩
theorem dX9_overThen_39 : jm_d cX9_overThen 39 (.iload_n 3) 1 40 := ⟨by decide +kernel, rfl⟩
theorem dX9_overThen_40 : jm_d cX9_overThen 40 (.invokevirtual 229) 3 43 := ⟨by decide +kernel, rfl⟩
theorem dX9_overThen_43 : jm_d cX9_overThen 43 (.aload_n 0) 1 44 := ⟨by decide +kernel, rfl⟩
theorem dX9_overThen_44 : jm_d cX9_overThen 44 (.iload_n 1) 1 45 := ⟨by decide +kernel, rfl⟩
theorem dX9_overThen_45 : jm_d cX9_overThen 45 (.iload_n 2) 1 46 := ⟨by decide +kernel, rfl⟩
theorem dX9_overThen_46 : jm_d cX9_overThen 46 (.invokevirtual 142) 3 49 := ⟨by decide +kernel, rfl⟩
theorem dX9_overThen_49 : jm_d cX9_overThen 49 (.istore 5) 2 51 := ⟨by decide +kernel, rfl⟩
theorem dX9_overThen_51 : jm_d cX9_overThen 51 (.aload_n 0) 1 52 := ⟨by decide +kernel, rfl⟩
theorem dX9_overThen_52 : jm_d cX9_overThen 52 (.invokevirtual 310) 3 55 := ⟨by decide +kernel, rfl⟩
theorem dX9_overThen_55 : jm_d cX9_overThen 55 (.iload 5) 2 57 := ⟨by decide +kernel, rfl⟩
theorem dX9_overThen_57 : jm_d cX9_overThen 57 (.ireturn) 1 58 := ⟨by decide +kernel, rfl⟩
theorem dX9_overThen_27 : jm_d cX9_overThen 27 (.aload_n 0) 1 28 := ⟨by decide +kernel, rfl⟩
theorem dX9_overThen_28 : jm_d cX9_overThen 28 (.iload 4) 2 30 := ⟨by decide +kernel, rfl⟩
theorem dX9_overThen_30 : jm_d cX9_overThen 30 (.invokevirtual 304) 3 33 := ⟨by decide +kernel, rfl⟩
theorem dX9_overThen_33 : jm_d cX9_overThen 33 (.ireturn) 1 34 := ⟨by decide +kernel, rfl⟩
set_option maxHeartbeats 4000000 in
set_option maxRecDepth 100000 in
theorem kM_overThen (E : jm_Ev) (hE : jm_dj E jm_LM) {M : jm_M} {p1 : Int32} {p2 : Int32} {p3 : Int32}  {r : Int32 × jm_M} (h : sM_overThen M p1 p2 p3 = some r) : jm_Ct E jm_LM yX9_overThen cX9_overThen 6 (some .int) 6 140 [.ref (jm_a E 0 0), .int p1, .int p2, .int p3] M (some (.int r.1)) r.2 := by
  refine jm_enter (lv := [some (.ref (jm_a E 0 0)), some (.int p1), some (.int p2), some (.int p3), none, none]) hE (by decide) (Nat.le_of_ble_eq_true rfl) rfl ?_
  intro z w F hz
  have G : jm_G w 0 [some (.ref (jm_a E 0 0)), some (.int p1), some (.int p2), some (.int p3), none, none] [] M (sM_overThen M p1 p2 p3) (fun e => z (some (.int e.1)) e.2) := by
    unfold sM_overThen
    refine jm_aload_n (i := 0) F dX9_overThen_0 rfl rfl ?_
    refine jm_iload_n (i := 1) F dX9_overThen_1 rfl rfl ?_
    refine jm_iload_n (i := 2) F dX9_overThen_2 rfl rfl ?_
    refine jm_callV (As := [.int p1, .int p2]) (st := []) (rv := fun r => some (.int r)) (mm := fun _ => M) F dX9_overThen_3 qX9_301 rfl lo_X9 rfl (fun r h => kM_areTwo E hE h) rfl (Nat.le_of_ble_eq_true rfl) ⟨Nat.le_of_ble_eq_true rfl, Nat.le_of_ble_eq_true rfl⟩ (fun r1 => ?_)
    refine jm_bind (pcJ := 20) (lvJ := fun e2 => [some (.ref (jm_a E 0 0)), some (.int p1), some (.int p2), some (.int p3), none, none]) (stJ := fun e2 => [.int e2]) (MJ := fun e2 => M) ?_ (fun e2 => ?_)
    · refine jm_if_ne F dX9_overThen_6 (fun c3 => ?_) (fun c3 => ?_)
      · refine jm_iconst F dX9_overThen_9 kc_m1 ?_
        refine jm_goto F dX9_overThen_10 ?_
        exact jm_weakD F (lv' := [some (.ref (jm_a E 0 0)), some (.int p1), some (.int p2), some (.int p3), none, none]) ⟨rfl, rfl, rfl, rfl, trivial⟩ (fun h => h)
      · refine jm_iload_n (i := 3) F dX9_overThen_13 rfl rfl ?_
        refine jm_iconst F dX9_overThen_14 kc_0 ?_
        refine jm_bipush F dX9_overThen_15 kb_60 ?_
        refine jm_callS (As := [.int p3, .int 0, .int 60]) (st := []) (rv := fun r => some (.int r)) (mm := fun _ => M) F dX9_overThen_17 qX9_166 rfl (fun r h => kM_bound E hE h) rfl (Nat.le_of_ble_eq_true rfl) ⟨Nat.le_of_ble_eq_true rfl, Nat.le_of_ble_eq_true rfl⟩ (fun r4 => ?_)
        exact jm_weakD F (lv' := [some (.ref (jm_a E 0 0)), some (.int p1), some (.int p2), some (.int p3), none, none]) ⟨rfl, rfl, rfl, rfl, trivial⟩ (fun h => h)
    · refine jm_istore (i := 4) (lv' := [some (.ref (jm_a E 0 0)), some (.int p1), some (.int p2), some (.int p3), some (.int e2), none]) F dX9_overThen_20 (by decide) rfl rfl ?_
      refine jm_iload F dX9_overThen_22 rfl ?_
      refine jm_if_eq F dX9_overThen_24 (fun c5 => ?_) (fun c5 => ?_)
      · refine jm_aload_n (i := 0) F dX9_overThen_34 rfl rfl ?_
        refine jm_callV (As := []) (st := []) (rv := fun _ => none) (mm := fun r => r) F dX9_overThen_35 qX9_307 rfl lo_X9 rfl (fun r h => kM_minds E hE h) rfl (Nat.le_of_ble_eq_true rfl) ⟨Nat.le_of_ble_eq_true rfl, Nat.le_of_ble_eq_true rfl⟩ (fun r6 => ?_)
        refine jm_aload_n (i := 0) F dX9_overThen_38 rfl rfl ?_
        refine jm_iload_n (i := 3) F dX9_overThen_39 rfl rfl ?_
        refine jm_callV (As := [.int p3]) (st := []) (rv := fun _ => none) (mm := fun r => r) F dX9_overThen_40 qX9_229 rfl lo_X9 rfl (fun r h => kM_goes E hE h) rfl (Nat.le_of_ble_eq_true rfl) ⟨Nat.le_of_ble_eq_true rfl, Nat.le_of_ble_eq_true rfl⟩ (fun r7 => ?_)
        refine jm_aload_n (i := 0) F dX9_overThen_43 rfl rfl ?_
        refine jm_iload_n (i := 1) F dX9_overThen_44 rfl rfl ?_
        refine jm_iload_n (i := 2) F dX9_overThen_45 rfl rfl ?_
        refine jm_callV (As := [.int p1, .int p2]) (st := []) (rv := fun r => some (.int r)) (mm := fun _ => r7) F dX9_overThen_46 qX9_142 rfl lo_X9 rfl (fun r h => kM_overNow E hE h) rfl (Nat.le_of_ble_eq_true rfl) ⟨Nat.le_of_ble_eq_true rfl, Nat.le_of_ble_eq_true rfl⟩ (fun r8 => ?_)
        refine jm_istore (i := 5) (lv' := [some (.ref (jm_a E 0 0)), some (.int p1), some (.int p2), some (.int p3), some (.int e2), some (.int r8)]) F dX9_overThen_49 (by decide) rfl rfl ?_
        refine jm_aload_n (i := 0) F dX9_overThen_51 rfl rfl ?_
        refine jm_callV (As := []) (st := []) (rv := fun _ => none) (mm := fun r => r) F dX9_overThen_52 qX9_310 rfl lo_X9 rfl (fun r h => kM_forgets E hE h) rfl (Nat.le_of_ble_eq_true rfl) ⟨Nat.le_of_ble_eq_true rfl, Nat.le_of_ble_eq_true rfl⟩ (fun r9 => ?_)
        refine jm_iload F dX9_overThen_55 rfl ?_
        exact jm_iret F dX9_overThen_57 (fun h => h)
      · refine jm_aload_n (i := 0) F dX9_overThen_27 rfl rfl ?_
        refine jm_iload F dX9_overThen_28 rfl ?_
        refine jm_callV (As := [.int e2]) (st := []) (rv := fun r => some (.int r.1)) (mm := fun r => r.2) F dX9_overThen_30 qX9_304 rfl lo_X9 rfl (fun r h => kM_lower E hE h) rfl (Nat.le_of_ble_eq_true rfl) ⟨Nat.le_of_ble_eq_true rfl, Nat.le_of_ble_eq_true rfl⟩ (fun r10 => ?_)
        exact jm_iret F dX9_overThen_33 (fun h => h)
  exact G r h hz
theorem dX9_then_0 : jm_d cX9_then 0 (.iload_n 1) 1 1 := ⟨by decide +kernel, rfl⟩
theorem dX9_then_1 : jm_d cX9_then 1 (.iconst 0) 1 2 := ⟨by decide +kernel, rfl⟩
theorem dX9_then_2 : jm_d cX9_then 2 (.bipush 60) 2 4 := ⟨by decide +kernel, rfl⟩
theorem dX9_then_4 : jm_d cX9_then 4 (.invokestatic 166) 3 7 := ⟨by decide +kernel, rfl⟩
theorem dX9_then_7 : jm_d cX9_then 7 (.istore 4) 2 9 := ⟨by decide +kernel, rfl⟩
theorem dX9_then_9 : jm_d cX9_then 9 (.iload 4) 2 11 := ⟨by decide +kernel, rfl⟩
theorem dX9_then_11 : jm_b cX9_then 11 (.ifCond .ne) 14 27 := ⟨16, by decide +kernel, rfl, by decide⟩
theorem dX9_then_14 : jm_d cX9_then 14 (.iload_n 2) 1 15 := ⟨by decide +kernel, rfl⟩
theorem dX9_then_15 : jm_d cX9_then 15 (.iconst 0) 1 16 := ⟨by decide +kernel, rfl⟩
theorem dX9_then_16 : jm_d cX9_then 16 (.iconst 2) 1 17 := ⟨by decide +kernel, rfl⟩
theorem dX9_then_17 : jm_d cX9_then 17 (.invokestatic 98) 3 20 := ⟨by decide +kernel, rfl⟩
theorem dX9_then_20 : jm_b cX9_then 20 (.ifCond .ne) 23 27 := ⟨7, by decide +kernel, rfl, by decide⟩
theorem dX9_then_23 : jm_d cX9_then 23 (.bipush (-2)) 2 25 := ⟨by decide +kernel, rfl⟩
theorem dX9_then_25 : jm_d cX9_then 25 (.istore 4) 2 27 := ⟨by decide +kernel, rfl⟩
theorem dX9_then_27 : jm_d cX9_then 27 (.iload 4) 2 29 := ⟨by decide +kernel, rfl⟩
theorem dX9_then_29 : jm_b cX9_then 29 (.ifCond .ne) 32 58 := ⟨29, by decide +kernel, rfl, by decide⟩
theorem dX9_then_32 : jm_d cX9_then 32 (.iload_n 2) 1 33 := ⟨by decide +kernel, rfl⟩
theorem dX9_then_33 : jm_b cX9_then 33 (.ifCond .ne) 36 47 := ⟨14, by decide +kernel, rfl, by decide⟩
theorem dX9_then_36 : jm_d cX9_then 36 (.aload_n 0) 1 37 := ⟨by decide +kernel, rfl⟩
theorem dX9_then_37 : jm_d cX9_then 37 (.iload_n 3) 1 38 := ⟨by decide +kernel, rfl⟩
theorem dX9_then_38 : jm_d cX9_then 38 (.invokevirtual 102) 3 41 := ⟨by decide +kernel, rfl⟩
theorem dX9_then_41 : jm_b cX9_then 41 (.ifCond .eq) 44 55 := ⟨14, by decide +kernel, rfl, by decide⟩
theorem dX9_then_55 : jm_d cX9_then 55 (.iconst (-1)) 1 56 := ⟨by decide +kernel, rfl⟩
theorem dX9_then_56 : jm_d cX9_then 56 (.istore 4) 2 58 := ⟨by decide +kernel, rfl⟩
theorem dX9_then_44 : jm_b cX9_then 44 .goto 47 58 := ⟨14, by decide +kernel, rfl, by decide⟩
theorem dX9_then_47 : jm_d cX9_then 47 (.aload_n 0) 1 48 := ⟨by decide +kernel, rfl⟩
theorem dX9_then_48 : jm_d cX9_then 48 (.iload_n 3) 1 49 := ⟨by decide +kernel, rfl⟩
theorem dX9_then_49 : jm_d cX9_then 49 (.invokevirtual 289) 3 52 := ⟨by decide +kernel, rfl⟩
theorem dX9_then_52 : jm_b cX9_then 52 (.ifCond .ne) 55 58 := ⟨6, by decide +kernel, rfl, by decide⟩
theorem dX9_then_58 : jm_d cX9_then 58 (.iload 4) 2 60 := ⟨by decide +kernel, rfl⟩
theorem dX9_then_60 : jm_b cX9_then 60 (.ifCond .eq) 63 70 := ⟨10, by decide +kernel, rfl, by decide⟩
theorem dX9_then_70 : jm_d cX9_then 70 (.aload_n 0) 1 71 := ⟨by decide +kernel, rfl⟩
theorem dX9_then_71 : jm_d cX9_then 71 (.invokevirtual 307) 3 74 := ⟨by decide +kernel, rfl⟩
theorem dX9_then_74 : jm_d cX9_then 74 (.aload_n 0) 1 75 := ⟨by decide +kernel, rfl⟩
theorem dX9_then_75 : jm_d cX9_then 75 (.iload_n 1) 1 76 := ⟨by decide +kernel, rfl⟩
theorem dX9_then_76 : jm_d cX9_then 76 (.invokevirtual 229) 3 79 := ⟨by decide +kernel, rfl⟩
theorem dX9_then_79 : jm_d cX9_then 79 (.iload_n 2) 1 80 := ⟨by decide +kernel, rfl⟩
theorem dX9_then_80 : jm_b cX9_then 80 (.ifCond .ne) 83 92 := ⟨12, by decide +kernel, rfl, by decide⟩
theorem dX9_then_83 : jm_d cX9_then 83 (.aload_n 0) 1 84 := ⟨by decide +kernel, rfl⟩
theorem dX9_then_84 : jm_d cX9_then 84 (.getfield 13) 3 87 := ⟨by decide +kernel, rfl⟩
theorem dX9_then_87 : jm_d cX9_then 87 (.iload_n 3) 1 88 := ⟨by decide +kernel, rfl⟩
theorem dX9_then_88 : jm_d cX9_then 88 (.iaload) 1 89 := ⟨by decide +kernel, rfl⟩
theorem dX9_then_89 : jm_b cX9_then 89 .goto 92 115 := ⟨26, by decide +kernel, rfl, by decide⟩
theorem dX9_then_92 : jm_d cX9_then 92 (.iload_n 2) 1 93 := ⟨by decide +kernel, rfl⟩
theorem dX9_then_93 : jm_d cX9_then 93 (.iconst 1) 1 94 := ⟨by decide +kernel, rfl⟩
theorem dX9_then_94 : jm_b cX9_then 94 (.if_icmp .ne) 97 109 := ⟨15, by decide +kernel, rfl, by decide⟩
theorem dX9_then_97 : jm_d cX9_then 97 (.aload_n 0) 1 98 := ⟨by decide +kernel, rfl⟩
theorem dX9_then_98 : jm_d cX9_then 98 (.getfield 34) 3 101 := ⟨by decide +kernel, rfl⟩
theorem dX9_then_101 : jm_d cX9_then 101 (.iload_n 3) 1 102 := ⟨by decide +kernel, rfl⟩
theorem dX9_then_102 : jm_d cX9_then 102 (.iaload) 1 103 := ⟨by decide +kernel, rfl⟩
theorem dX9_then_103 : jm_d cX9_then 103 (.invokestatic 109) 3 106 := ⟨by decide +kernel, rfl⟩
theorem dX9_then_106 : jm_b cX9_then 106 .goto 109 115 := ⟨9, by decide +kernel, rfl, by decide⟩
theorem dX9_then_109 : jm_d cX9_then 109 (.aload_n 0) 1 110 := ⟨by decide +kernel, rfl⟩
theorem dX9_then_110 : jm_d cX9_then 110 (.getfield 31) 3 113 := ⟨by decide +kernel, rfl⟩
theorem dX9_then_113 : jm_d cX9_then 113 (.iload_n 3) 1 114 := ⟨by decide +kernel, rfl⟩
theorem dX9_then_114 : jm_d cX9_then 114 (.iaload) 1 115 := ⟨by decide +kernel, rfl⟩
theorem dX9_then_115 : jm_d cX9_then 115 (.istore 5) 2 117 := ⟨by decide +kernel, rfl⟩
theorem dX9_then_117 : jm_d cX9_then 117 (.aload_n 0) 1 118 := ⟨by decide +kernel, rfl⟩
theorem dX9_then_118 : jm_d cX9_then 118 (.invokevirtual 310) 3 121 := ⟨by decide +kernel, rfl⟩
theorem dX9_then_121 : jm_d cX9_then 121 (.iload 5) 2 123 := ⟨by decide +kernel, rfl⟩
theorem dX9_then_123 : jm_d cX9_then 123 (.ireturn) 1 124 := ⟨by decide +kernel, rfl⟩
theorem dX9_then_63 : jm_d cX9_then 63 (.aload_n 0) 1 64 := ⟨by decide +kernel, rfl⟩
theorem dX9_then_64 : jm_d cX9_then 64 (.iload 4) 2 66 := ⟨by decide +kernel, rfl⟩
theorem dX9_then_66 : jm_d cX9_then 66 (.invokevirtual 172) 3 69 := ⟨by decide +kernel, rfl⟩
theorem dX9_then_69 : jm_d cX9_then 69 (.ireturn) 1 70 := ⟨by decide +kernel, rfl⟩
set_option maxHeartbeats 4000000 in
set_option maxRecDepth 100000 in
theorem kM_then (E : jm_Ev) (hE : jm_dj E jm_LM) {M : jm_M} {p1 : Int32} {p2 : Int32} {p3 : Int32}  {r : Int32 × jm_M} (h : sM_then M p1 p2 p3 = some r) : jm_Ct E jm_LM yX9_then cX9_then 6 (some .int) 5 113 [.ref (jm_a E 0 0), .int p1, .int p2, .int p3] M (some (.int r.1)) r.2 := by
  refine jm_enter (lv := [some (.ref (jm_a E 0 0)), some (.int p1), some (.int p2), some (.int p3), none, none]) hE (by decide) (Nat.le_of_ble_eq_true rfl) rfl ?_
  intro z w F hz
  have G : jm_G w 0 [some (.ref (jm_a E 0 0)), some (.int p1), some (.int p2), some (.int p3), none, none] [] M (sM_then M p1 p2 p3) (fun e => z (some (.int e.1)) e.2) := by
    unfold sM_then
    refine jm_iload_n (i := 1) F dX9_then_0 rfl rfl ?_
    refine jm_iconst F dX9_then_1 kc_0 ?_
    refine jm_bipush F dX9_then_2 kb_60 ?_
    refine jm_callS (As := [.int p1, .int 0, .int 60]) (st := []) (rv := fun r => some (.int r)) (mm := fun _ => M) F dX9_then_4 qX9_166 rfl (fun r h => kM_bound E hE h) rfl (Nat.le_of_ble_eq_true rfl) ⟨Nat.le_of_ble_eq_true rfl, Nat.le_of_ble_eq_true rfl⟩ (fun r1 => ?_)
    refine jm_istore (i := 4) (lv' := [some (.ref (jm_a E 0 0)), some (.int p1), some (.int p2), some (.int p3), some (.int r1), none]) F dX9_then_7 (by decide) rfl rfl ?_
    refine jm_iload F dX9_then_9 rfl ?_
    refine jm_bind (pcJ := 27) (lvJ := fun e2 => [some (.ref (jm_a E 0 0)), some (.int p1), some (.int p2), some (.int p3), some (.int e2), none]) (stJ := fun e2 => []) (MJ := fun e2 => M) ?_ (fun e2 => ?_)
    · refine jm_if_ne F dX9_then_11 (fun c3 => ?_) (fun c3 => ?_)
      · refine jm_iload_n (i := 2) F dX9_then_14 rfl rfl ?_
        refine jm_iconst F dX9_then_15 kc_0 ?_
        refine jm_iconst F dX9_then_16 kc_2 ?_
        refine jm_callS (As := [.int p2, .int 0, .int 2]) (st := []) (rv := fun r => some (.int r)) (mm := fun _ => M) F dX9_then_17 qX9_98 rfl (fun r h => kM_isIn E hE h) rfl (Nat.le_of_ble_eq_true rfl) ⟨Nat.le_of_ble_eq_true rfl, Nat.le_of_ble_eq_true rfl⟩ (fun r4 => ?_)
        refine jm_if_ne F dX9_then_20 (fun c5 => ?_) (fun c5 => ?_)
        · refine jm_bipush F dX9_then_23 kb_m2 ?_
          refine jm_istore (i := 4) (lv' := [some (.ref (jm_a E 0 0)), some (.int p1), some (.int p2), some (.int p3), some (.int (-2)), none]) F dX9_then_25 (by decide) rfl rfl ?_
          exact jm_weakD F (lv' := [some (.ref (jm_a E 0 0)), some (.int p1), some (.int p2), some (.int p3), some (.int (-2)), none]) ⟨rfl, rfl, rfl, rfl, rfl, trivial⟩ (fun h => h)
        · exact jm_weakD F (lv' := [some (.ref (jm_a E 0 0)), some (.int p1), some (.int p2), some (.int p3), some (.int r1), none]) ⟨rfl, rfl, rfl, rfl, rfl, trivial⟩ (fun h => h)
      · exact jm_weakD F (lv' := [some (.ref (jm_a E 0 0)), some (.int p1), some (.int p2), some (.int p3), some (.int r1), none]) ⟨rfl, rfl, rfl, rfl, rfl, trivial⟩ (fun h => h)
    · refine jm_iload F dX9_then_27 rfl ?_
      refine jm_bind (pcJ := 58) (lvJ := fun e6 => [some (.ref (jm_a E 0 0)), some (.int p1), some (.int p2), some (.int p3), some (.int e6), none]) (stJ := fun e6 => []) (MJ := fun e6 => M) ?_ (fun e6 => ?_)
      · refine jm_if_ne F dX9_then_29 (fun c7 => ?_) (fun c7 => ?_)
        · refine jm_iload_n (i := 2) F dX9_then_32 rfl rfl ?_
          refine jm_if_ne F dX9_then_33 (fun c8 => ?_) (fun c8 => ?_)
          · refine jm_aload_n (i := 0) F dX9_then_36 rfl rfl ?_
            refine jm_iload_n (i := 3) F dX9_then_37 rfl rfl ?_
            refine jm_callV (As := [.int p3]) (st := []) (rv := fun r => some (.int r)) (mm := fun _ => M) F dX9_then_38 qX9_102 rfl lo_X9 rfl (fun r h => kM_isPerson E hE h) rfl (Nat.le_of_ble_eq_true rfl) ⟨Nat.le_of_ble_eq_true rfl, Nat.le_of_ble_eq_true rfl⟩ (fun r9 => ?_)
            refine jm_if_eq F dX9_then_41 (fun c10 => ?_) (fun c10 => ?_)
            · refine jm_iconst F dX9_then_55 kc_m1 ?_
              refine jm_istore (i := 4) (lv' := [some (.ref (jm_a E 0 0)), some (.int p1), some (.int p2), some (.int p3), some (.int (-1)), none]) F dX9_then_56 (by decide) rfl rfl ?_
              exact jm_weakD F (lv' := [some (.ref (jm_a E 0 0)), some (.int p1), some (.int p2), some (.int p3), some (.int (-1)), none]) ⟨rfl, rfl, rfl, rfl, rfl, trivial⟩ (fun h => h)
            · refine jm_goto F dX9_then_44 ?_
              exact jm_weakD F (lv' := [some (.ref (jm_a E 0 0)), some (.int p1), some (.int p2), some (.int p3), some (.int e2), none]) ⟨rfl, rfl, rfl, rfl, rfl, trivial⟩ (fun h => h)
          · refine jm_aload_n (i := 0) F dX9_then_47 rfl rfl ?_
            refine jm_iload_n (i := 3) F dX9_then_48 rfl rfl ?_
            refine jm_callV (As := [.int p3]) (st := []) (rv := fun r => some (.int r)) (mm := fun _ => M) F dX9_then_49 qX9_289 rfl lo_X9 rfl (fun r h => kM_isBook E hE h) rfl (Nat.le_of_ble_eq_true rfl) ⟨Nat.le_of_ble_eq_true rfl, Nat.le_of_ble_eq_true rfl⟩ (fun r11 => ?_)
            refine jm_if_ne F dX9_then_52 (fun c12 => ?_) (fun c12 => ?_)
            · refine jm_iconst F dX9_then_55 kc_m1 ?_
              refine jm_istore (i := 4) (lv' := [some (.ref (jm_a E 0 0)), some (.int p1), some (.int p2), some (.int p3), some (.int (-1)), none]) F dX9_then_56 (by decide) rfl rfl ?_
              exact jm_weakD F (lv' := [some (.ref (jm_a E 0 0)), some (.int p1), some (.int p2), some (.int p3), some (.int (-1)), none]) ⟨rfl, rfl, rfl, rfl, rfl, trivial⟩ (fun h => h)
            · exact jm_weakD F (lv' := [some (.ref (jm_a E 0 0)), some (.int p1), some (.int p2), some (.int p3), some (.int e2), none]) ⟨rfl, rfl, rfl, rfl, rfl, trivial⟩ (fun h => h)
        · exact jm_weakD F (lv' := [some (.ref (jm_a E 0 0)), some (.int p1), some (.int p2), some (.int p3), some (.int e2), none]) ⟨rfl, rfl, rfl, rfl, rfl, trivial⟩ (fun h => h)
      · refine jm_iload F dX9_then_58 rfl ?_
        refine jm_if_eq F dX9_then_60 (fun c13 => ?_) (fun c13 => ?_)
        · refine jm_aload_n (i := 0) F dX9_then_70 rfl rfl ?_
          refine jm_callV (As := []) (st := []) (rv := fun _ => none) (mm := fun r => r) F dX9_then_71 qX9_307 rfl lo_X9 rfl (fun r h => kM_minds E hE h) rfl (Nat.le_of_ble_eq_true rfl) ⟨Nat.le_of_ble_eq_true rfl, Nat.le_of_ble_eq_true rfl⟩ (fun r14 => ?_)
          refine jm_aload_n (i := 0) F dX9_then_74 rfl rfl ?_
          refine jm_iload_n (i := 1) F dX9_then_75 rfl rfl ?_
          refine jm_callV (As := [.int p1]) (st := []) (rv := fun _ => none) (mm := fun r => r) F dX9_then_76 qX9_229 rfl lo_X9 rfl (fun r h => kM_goes E hE h) rfl (Nat.le_of_ble_eq_true rfl) ⟨Nat.le_of_ble_eq_true rfl, Nat.le_of_ble_eq_true rfl⟩ (fun r15 => ?_)
          refine jm_iload_n (i := 2) F dX9_then_79 rfl rfl ?_
          refine jm_bind (pcJ := 115) (lvJ := fun e16 => [some (.ref (jm_a E 0 0)), none, none, none, none, none]) (stJ := fun e16 => [.int e16]) (MJ := fun e16 => r15) ?_ (fun e16 => ?_)
          · refine jm_if_ne F dX9_then_80 (fun c17 => ?_) (fun c17 => ?_)
            · refine jm_aload_n (i := 0) F dX9_then_83 rfl rfl ?_
              refine jm_getR F dX9_then_84 fl_X9_13 lo_X9 rfl ?_
              refine jm_iload_n (i := 3) F dX9_then_87 rfl rfl ?_
              refine jm_iald F dX9_then_88 la_X9_2 (fun v18 => ?_)
              refine jm_goto F dX9_then_89 ?_
              exact jm_weakD F (lv' := [some (.ref (jm_a E 0 0)), none, none, none, none, none]) ⟨rfl, trivial⟩ (fun h => h)
            · refine jm_iload_n (i := 2) F dX9_then_92 rfl rfl ?_
              refine jm_iconst F dX9_then_93 kc_1 ?_
              refine jm_icmp_ne F dX9_then_94 (fun c19 => ?_) (fun c19 => ?_)
              · refine jm_aload_n (i := 0) F dX9_then_97 rfl rfl ?_
                refine jm_getR F dX9_then_98 fl_X9_34 lo_X9 rfl ?_
                refine jm_iload_n (i := 3) F dX9_then_101 rfl rfl ?_
                refine jm_iald F dX9_then_102 la_X9_9 (fun v20 => ?_)
                refine jm_callS (As := [.int v20]) (st := []) (rv := fun r => some (.int r)) (mm := fun _ => r15) F dX9_then_103 qX9_109 rfl (fun r h => kM_bits E hE h) rfl (Nat.le_of_ble_eq_true rfl) ⟨Nat.le_of_ble_eq_true rfl, Nat.le_of_ble_eq_true rfl⟩ (fun r21 => ?_)
                refine jm_goto F dX9_then_106 ?_
                exact jm_weakD F (lv' := [some (.ref (jm_a E 0 0)), none, none, none, none, none]) ⟨rfl, trivial⟩ (fun h => h)
              · refine jm_aload_n (i := 0) F dX9_then_109 rfl rfl ?_
                refine jm_getR F dX9_then_110 fl_X9_31 lo_X9 rfl ?_
                refine jm_iload_n (i := 3) F dX9_then_113 rfl rfl ?_
                refine jm_iald F dX9_then_114 la_X9_8 (fun v22 => ?_)
                exact jm_weakD F (lv' := [some (.ref (jm_a E 0 0)), none, none, none, none, none]) ⟨rfl, trivial⟩ (fun h => h)
          · refine jm_istore (i := 5) (lv' := [some (.ref (jm_a E 0 0)), none, none, none, none, some (.int e16)]) F dX9_then_115 (by decide) rfl rfl ?_
            refine jm_aload_n (i := 0) F dX9_then_117 rfl rfl ?_
            refine jm_callV (As := []) (st := []) (rv := fun _ => none) (mm := fun r => r) F dX9_then_118 qX9_310 rfl lo_X9 rfl (fun r h => kM_forgets E hE h) rfl (Nat.le_of_ble_eq_true rfl) ⟨Nat.le_of_ble_eq_true rfl, Nat.le_of_ble_eq_true rfl⟩ (fun r23 => ?_)
            refine jm_iload F dX9_then_121 rfl ?_
            exact jm_iret F dX9_then_123 (fun h => h)
        · refine jm_aload_n (i := 0) F dX9_then_63 rfl rfl ?_
          refine jm_iload F dX9_then_64 rfl ?_
          refine jm_callV (As := [.int e6]) (st := []) (rv := fun r => some (.int r.1)) (mm := fun r => r.2) F dX9_then_66 qX9_172 rfl lo_X9 rfl (fun r h => kM_no E hE h) rfl (Nat.le_of_ble_eq_true rfl) ⟨Nat.le_of_ble_eq_true rfl, Nat.le_of_ble_eq_true rfl⟩ (fun r24 => ?_)
          exact jm_iret F dX9_then_69 (fun h => h)
  exact G r h hz
theorem dX9_whenFrom_0 : jm_d cX9_whenFrom 0 (.iconst 0) 1 1 := ⟨by decide +kernel, rfl⟩
theorem dX9_whenFrom_1 : jm_d cX9_whenFrom 1 (.istore_n 3) 1 2 := ⟨by decide +kernel, rfl⟩
theorem dX9_whenFrom_2 : jm_d cX9_whenFrom 2 (.iload_n 3) 1 3 := ⟨by decide +kernel, rfl⟩
theorem dX9_whenFrom_3 : jm_d cX9_whenFrom 3 (.bipush 60) 2 5 := ⟨by decide +kernel, rfl⟩
theorem dX9_whenFrom_5 : jm_b cX9_whenFrom 5 (.if_icmp .gt) 8 29 := ⟨24, by decide +kernel, rfl, by decide⟩
theorem dX9_whenFrom_8 : jm_d cX9_whenFrom 8 (.aload_n 0) 1 9 := ⟨by decide +kernel, rfl⟩
theorem dX9_whenFrom_9 : jm_d cX9_whenFrom 9 (.iload_n 1) 1 10 := ⟨by decide +kernel, rfl⟩
theorem dX9_whenFrom_10 : jm_d cX9_whenFrom 10 (.iload_n 2) 1 11 := ⟨by decide +kernel, rfl⟩
theorem dX9_whenFrom_11 : jm_d cX9_whenFrom 11 (.invokevirtual 313) 3 14 := ⟨by decide +kernel, rfl⟩
theorem dX9_whenFrom_14 : jm_b cX9_whenFrom 14 (.ifCond .eq) 17 19 := ⟨5, by decide +kernel, rfl, by decide⟩
theorem dX9_whenFrom_19 : jm_d cX9_whenFrom 19 (.aload_n 0) 1 20 := ⟨by decide +kernel, rfl⟩
theorem dX9_whenFrom_20 : jm_d cX9_whenFrom 20 (.invokevirtual 163) 3 23 := ⟨by decide +kernel, rfl⟩
theorem dX9_whenFrom_23 : jm_d cX9_whenFrom 23 (.iinc 3 1) 3 26 := ⟨by decide +kernel, rfl⟩
theorem dX9_whenFrom_26 : jm_b cX9_whenFrom 26 .goto 29 2 := ⟨(-24), by decide +kernel, rfl, by decide⟩
theorem dX9_whenFrom_17 : jm_d cX9_whenFrom 17 (.iload_n 3) 1 18 := ⟨by decide +kernel, rfl⟩
theorem dX9_whenFrom_18 : jm_d cX9_whenFrom 18 (.ireturn) 1 19 := ⟨by decide +kernel, rfl⟩
theorem dX9_whenFrom_29 : jm_d cX9_whenFrom 29 (.bipush (-9)) 2 31 := ⟨by decide +kernel, rfl⟩
theorem dX9_whenFrom_31 : jm_d cX9_whenFrom 31 (.ireturn) 1 32 := ⟨by decide +kernel, rfl⟩
set_option maxHeartbeats 4000000 in
set_option maxRecDepth 100000 in
theorem kM_whenFrom (E : jm_Ev) (hE : jm_dj E jm_LM) {M : jm_M} {p1 : Int32} {p2 : Int32}  {r : Int32 × jm_M} (h : sM_whenFrom M p1 p2 = some r) : jm_Ct E jm_LM yX9_whenFrom cX9_whenFrom 4 (some .int) 7 162 [.ref (jm_a E 0 0), .int p1, .int p2] M (some (.int r.1)) r.2 := by
  refine jm_enter (lv := [some (.ref (jm_a E 0 0)), some (.int p1), some (.int p2), none]) hE (by decide) (Nat.le_of_ble_eq_true rfl) rfl ?_
  intro z w F hz
  have G : jm_G w 0 [some (.ref (jm_a E 0 0)), some (.int p1), some (.int p2), none] [] M (sM_whenFrom M p1 p2) (fun e => z (some (.int e.1)) e.2) := by
    unfold sM_whenFrom
    refine jm_iconst F dX9_whenFrom_0 kc_0 ?_
    refine jm_istore_n (i := 3) (lv' := [some (.ref (jm_a E 0 0)), some (.int p1), some (.int p2), some (.int 0)]) F dX9_whenFrom_1 rfl (by decide) rfl rfl ?_
    refine jm_bindS (pcJ := 29) (lvJ := fun e6 => [none, none, none, none]) (stJ := fun _ => []) (MJ := fun e6 => e6) ?_ (fun e6 => ?_)
    · refine jm_weak F (lv' := [some (.ref (jm_a E 0 0)), some (.int p1), some (.int p2), some (.int 0)]) ⟨rfl, rfl, rfl, rfl, trivial⟩ ?_
      refine jm_loopR (lvH := fun s1 => [some (.ref (jm_a E 0 0)), some (.int p1), some (.int p2), some (.int s1.1)]) (MH := fun s1 => s1.2) (fun s1 => ?_) jm_N (0, M)
      unfold sM_whenFrom_L2
      refine jm_iload_n (i := 3) F dX9_whenFrom_2 rfl rfl ?_
      refine jm_bipush F dX9_whenFrom_3 kb_60 ?_
      refine jm_icmp_gt F dX9_whenFrom_5 (fun c2 => ?_) (fun c2 => ?_)
      · exact jm_weakD F (lv' := [none, none, none, none]) trivial (fun h => h)
      · refine jm_aload_n (i := 0) F dX9_whenFrom_8 rfl rfl ?_
        refine jm_iload_n (i := 1) F dX9_whenFrom_9 rfl rfl ?_
        refine jm_iload_n (i := 2) F dX9_whenFrom_10 rfl rfl ?_
        refine jm_callV (As := [.int p1, .int p2]) (st := []) (rv := fun r => some (.int r)) (mm := fun _ => s1.2) F dX9_whenFrom_11 qX9_313 rfl lo_X9 rfl (fun r h => kM_comesDown E hE h) rfl (Nat.le_of_ble_eq_true rfl) ⟨Nat.le_of_ble_eq_true rfl, Nat.le_of_ble_eq_true rfl⟩ (fun r3 => ?_)
        refine jm_if_eq F dX9_whenFrom_14 (fun c4 => ?_) (fun c4 => ?_)
        · refine jm_aload_n (i := 0) F dX9_whenFrom_19 rfl rfl ?_
          refine jm_callV (As := []) (st := []) (rv := fun _ => none) (mm := fun r => r) F dX9_whenFrom_20 qX9_163 rfl lo_X9 rfl (fun r h => kM_goesWeek E hE h) rfl (Nat.le_of_ble_eq_true rfl) ⟨Nat.le_of_ble_eq_true rfl, Nat.le_of_ble_eq_true rfl⟩ (fun r5 => ?_)
          refine jm_iinc (i := 3) (lv' := [some (.ref (jm_a E 0 0)), some (.int p1), some (.int p2), some (.int (s1.1 + 1))]) F dX9_whenFrom_23 kc_1 rfl (by decide) rfl rfl ?_
          refine jm_goto F dX9_whenFrom_26 ?_
          exact jm_weakD F (lv' := [some (.ref (jm_a E 0 0)), some (.int p1), some (.int p2), some (.int (s1.1 + 1))]) ⟨rfl, rfl, rfl, rfl, trivial⟩ (fun h => h)
        · refine jm_iload_n (i := 3) F dX9_whenFrom_17 rfl rfl ?_
          exact jm_iret F dX9_whenFrom_18 (fun h => h)
    · refine jm_bipush F dX9_whenFrom_29 kb_m9 ?_
      exact jm_iret F dX9_whenFrom_31 (fun h => h)
  exact G r h hz
theorem dX9_when_0 : jm_d cX9_when 0 (.aload_n 0) 1 1 := ⟨by decide +kernel, rfl⟩
theorem dX9_when_1 : jm_d cX9_when 1 (.iload_n 1) 1 2 := ⟨by decide +kernel, rfl⟩
theorem dX9_when_2 : jm_d cX9_when 2 (.iload_n 2) 1 3 := ⟨by decide +kernel, rfl⟩
theorem dX9_when_3 : jm_d cX9_when 3 (.invokevirtual 301) 3 6 := ⟨by decide +kernel, rfl⟩
theorem dX9_when_6 : jm_b cX9_when 6 (.ifCond .ne) 9 15 := ⟨9, by decide +kernel, rfl, by decide⟩
theorem dX9_when_9 : jm_d cX9_when 9 (.aload_n 0) 1 10 := ⟨by decide +kernel, rfl⟩
theorem dX9_when_10 : jm_d cX9_when 10 (.iconst (-1)) 1 11 := ⟨by decide +kernel, rfl⟩
theorem dX9_when_11 : jm_d cX9_when 11 (.invokevirtual 172) 3 14 := ⟨by decide +kernel, rfl⟩
theorem dX9_when_14 : jm_d cX9_when 14 (.ireturn) 1 15 := ⟨by decide +kernel, rfl⟩
theorem dX9_when_15 : jm_d cX9_when 15 (.aload_n 0) 1 16 := ⟨by decide +kernel, rfl⟩
theorem dX9_when_16 : jm_d cX9_when 16 (.invokevirtual 307) 3 19 := ⟨by decide +kernel, rfl⟩
theorem dX9_when_19 : jm_d cX9_when 19 (.aload_n 0) 1 20 := ⟨by decide +kernel, rfl⟩
theorem dX9_when_20 : jm_d cX9_when 20 (.iload_n 1) 1 21 := ⟨by decide +kernel, rfl⟩
theorem dX9_when_21 : jm_d cX9_when 21 (.iload_n 2) 1 22 := ⟨by decide +kernel, rfl⟩
theorem dX9_when_22 : jm_d cX9_when 22 (.invokevirtual 316) 3 25 := ⟨by decide +kernel, rfl⟩
theorem dX9_when_25 : jm_d cX9_when 25 (.istore_n 3) 1 26 := ⟨by decide +kernel, rfl⟩
theorem dX9_when_26 : jm_d cX9_when 26 (.aload_n 0) 1 27 := ⟨by decide +kernel, rfl⟩
theorem dX9_when_27 : jm_d cX9_when 27 (.invokevirtual 310) 3 30 := ⟨by decide +kernel, rfl⟩
theorem dX9_when_30 : jm_d cX9_when 30 (.iload_n 3) 1 31 := ⟨by decide +kernel, rfl⟩
theorem dX9_when_31 : jm_d cX9_when 31 (.ireturn) 1 32 := ⟨by decide +kernel, rfl⟩
set_option maxHeartbeats 4000000 in
set_option maxRecDepth 100000 in
theorem kM_when (E : jm_Ev) (hE : jm_dj E jm_LM) {M : jm_M} {p1 : Int32} {p2 : Int32}  {r : Int32 × jm_M} (h : sM_when M p1 p2 = some r) : jm_Ct E jm_LM yX9_when cX9_when 4 (some .int) 8 185 [.ref (jm_a E 0 0), .int p1, .int p2] M (some (.int r.1)) r.2 := by
  refine jm_enter (lv := [some (.ref (jm_a E 0 0)), some (.int p1), some (.int p2), none]) hE (by decide) (Nat.le_of_ble_eq_true rfl) rfl ?_
  intro z w F hz
  have G : jm_G w 0 [some (.ref (jm_a E 0 0)), some (.int p1), some (.int p2), none] [] M (sM_when M p1 p2) (fun e => z (some (.int e.1)) e.2) := by
    unfold sM_when
    refine jm_aload_n (i := 0) F dX9_when_0 rfl rfl ?_
    refine jm_iload_n (i := 1) F dX9_when_1 rfl rfl ?_
    refine jm_iload_n (i := 2) F dX9_when_2 rfl rfl ?_
    refine jm_callV (As := [.int p1, .int p2]) (st := []) (rv := fun r => some (.int r)) (mm := fun _ => M) F dX9_when_3 qX9_301 rfl lo_X9 rfl (fun r h => kM_areTwo E hE h) rfl (Nat.le_of_ble_eq_true rfl) ⟨Nat.le_of_ble_eq_true rfl, Nat.le_of_ble_eq_true rfl⟩ (fun r1 => ?_)
    refine jm_if_ne F dX9_when_6 (fun c2 => ?_) (fun c2 => ?_)
    · refine jm_aload_n (i := 0) F dX9_when_9 rfl rfl ?_
      refine jm_iconst F dX9_when_10 kc_m1 ?_
      refine jm_callV (As := [.int (-1)]) (st := []) (rv := fun r => some (.int r.1)) (mm := fun r => r.2) F dX9_when_11 qX9_172 rfl lo_X9 rfl (fun r h => kM_no E hE h) rfl (Nat.le_of_ble_eq_true rfl) ⟨Nat.le_of_ble_eq_true rfl, Nat.le_of_ble_eq_true rfl⟩ (fun r3 => ?_)
      exact jm_iret F dX9_when_14 (fun h => h)
    · refine jm_aload_n (i := 0) F dX9_when_15 rfl rfl ?_
      refine jm_callV (As := []) (st := []) (rv := fun _ => none) (mm := fun r => r) F dX9_when_16 qX9_307 rfl lo_X9 rfl (fun r h => kM_minds E hE h) rfl (Nat.le_of_ble_eq_true rfl) ⟨Nat.le_of_ble_eq_true rfl, Nat.le_of_ble_eq_true rfl⟩ (fun r4 => ?_)
      refine jm_aload_n (i := 0) F dX9_when_19 rfl rfl ?_
      refine jm_iload_n (i := 1) F dX9_when_20 rfl rfl ?_
      refine jm_iload_n (i := 2) F dX9_when_21 rfl rfl ?_
      refine jm_callV (As := [.int p1, .int p2]) (st := []) (rv := fun r => some (.int r.1)) (mm := fun r => r.2) F dX9_when_22 qX9_316 rfl lo_X9 rfl (fun r h => kM_whenFrom E hE h) rfl (Nat.le_of_ble_eq_true rfl) ⟨Nat.le_of_ble_eq_true rfl, Nat.le_of_ble_eq_true rfl⟩ (fun r5 => ?_)
      refine jm_istore_n (i := 3) (lv' := [some (.ref (jm_a E 0 0)), some (.int p1), some (.int p2), some (.int r5.1)]) F dX9_when_25 rfl (by decide) rfl rfl ?_
      refine jm_aload_n (i := 0) F dX9_when_26 rfl rfl ?_
      refine jm_callV (As := []) (st := []) (rv := fun _ => none) (mm := fun r => r) F dX9_when_27 qX9_310 rfl lo_X9 rfl (fun r h => kM_forgets E hE h) rfl (Nat.le_of_ble_eq_true rfl) ⟨Nat.le_of_ble_eq_true rfl, Nat.le_of_ble_eq_true rfl⟩ (fun r6 => ?_)
      refine jm_iload_n (i := 3) F dX9_when_30 rfl rfl ?_
      exact jm_iret F dX9_when_31 (fun h => h)
  exact G r h hz
theorem dX9_marksDown_0 : jm_d cX9_marksDown 0 (.iconst 0) 1 1 := ⟨by decide +kernel, rfl⟩
theorem dX9_marksDown_1 : jm_d cX9_marksDown 1 (.istore_n 1) 1 2 := ⟨by decide +kernel, rfl⟩
theorem dX9_marksDown_2 : jm_d cX9_marksDown 2 (.iload_n 1) 1 3 := ⟨by decide +kernel, rfl⟩
theorem dX9_marksDown_3 : jm_d cX9_marksDown 3 (.aload_n 0) 1 4 := ⟨by decide +kernel, rfl⟩
theorem dX9_marksDown_4 : jm_d cX9_marksDown 4 (.getfield 91) 3 7 := ⟨by decide +kernel, rfl⟩
theorem dX9_marksDown_7 : jm_b cX9_marksDown 7 (.if_icmp .ge) 10 59 := ⟨52, by decide +kernel, rfl, by decide⟩
theorem dX9_marksDown_10 : jm_d cX9_marksDown 10 (.iload_n 1) 1 11 := ⟨by decide +kernel, rfl⟩
theorem dX9_marksDown_11 : jm_d cX9_marksDown 11 (.iconst 1) 1 12 := ⟨by decide +kernel, rfl⟩
theorem dX9_marksDown_12 : jm_d cX9_marksDown 12 (.iadd) 1 13 := ⟨by decide +kernel, rfl⟩
theorem dX9_marksDown_13 : jm_d cX9_marksDown 13 (.istore_n 2) 1 14 := ⟨by decide +kernel, rfl⟩
theorem dX9_marksDown_14 : jm_d cX9_marksDown 14 (.iload_n 2) 1 15 := ⟨by decide +kernel, rfl⟩
theorem dX9_marksDown_15 : jm_d cX9_marksDown 15 (.aload_n 0) 1 16 := ⟨by decide +kernel, rfl⟩
theorem dX9_marksDown_16 : jm_d cX9_marksDown 16 (.getfield 91) 3 19 := ⟨by decide +kernel, rfl⟩
theorem dX9_marksDown_19 : jm_b cX9_marksDown 19 (.if_icmp .ge) 22 53 := ⟨34, by decide +kernel, rfl, by decide⟩
theorem dX9_marksDown_22 : jm_d cX9_marksDown 22 (.aload_n 0) 1 23 := ⟨by decide +kernel, rfl⟩
theorem dX9_marksDown_23 : jm_d cX9_marksDown 23 (.getfield 76) 3 26 := ⟨by decide +kernel, rfl⟩
theorem dX9_marksDown_26 : jm_d cX9_marksDown 26 (.bipush 6) 2 28 := ⟨by decide +kernel, rfl⟩
theorem dX9_marksDown_28 : jm_d cX9_marksDown 28 (.iload_n 1) 1 29 := ⟨by decide +kernel, rfl⟩
theorem dX9_marksDown_29 : jm_d cX9_marksDown 29 (.imul) 1 30 := ⟨by decide +kernel, rfl⟩
theorem dX9_marksDown_30 : jm_d cX9_marksDown 30 (.iload_n 2) 1 31 := ⟨by decide +kernel, rfl⟩
theorem dX9_marksDown_31 : jm_d cX9_marksDown 31 (.iadd) 1 32 := ⟨by decide +kernel, rfl⟩
theorem dX9_marksDown_32 : jm_d cX9_marksDown 32 (.aload_n 0) 1 33 := ⟨by decide +kernel, rfl⟩
theorem dX9_marksDown_33 : jm_d cX9_marksDown 33 (.iload_n 1) 1 34 := ⟨by decide +kernel, rfl⟩
theorem dX9_marksDown_34 : jm_d cX9_marksDown 34 (.iload_n 2) 1 35 := ⟨by decide +kernel, rfl⟩
theorem dX9_marksDown_35 : jm_d cX9_marksDown 35 (.invokevirtual 313) 3 38 := ⟨by decide +kernel, rfl⟩
theorem dX9_marksDown_38 : jm_b cX9_marksDown 38 (.ifCond .eq) 41 45 := ⟨7, by decide +kernel, rfl, by decide⟩
theorem dX9_marksDown_45 : jm_d cX9_marksDown 45 (.iconst 0) 1 46 := ⟨by decide +kernel, rfl⟩
theorem dX9_marksDown_41 : jm_d cX9_marksDown 41 (.iconst 1) 1 42 := ⟨by decide +kernel, rfl⟩
theorem dX9_marksDown_42 : jm_b cX9_marksDown 42 .goto 45 46 := ⟨4, by decide +kernel, rfl, by decide⟩
theorem dX9_marksDown_46 : jm_d cX9_marksDown 46 (.iastore) 1 47 := ⟨by decide +kernel, rfl⟩
theorem dX9_marksDown_47 : jm_d cX9_marksDown 47 (.iinc 2 1) 3 50 := ⟨by decide +kernel, rfl⟩
theorem dX9_marksDown_50 : jm_b cX9_marksDown 50 .goto 53 14 := ⟨(-36), by decide +kernel, rfl, by decide⟩
theorem dX9_marksDown_53 : jm_d cX9_marksDown 53 (.iinc 1 1) 3 56 := ⟨by decide +kernel, rfl⟩
theorem dX9_marksDown_56 : jm_b cX9_marksDown 56 .goto 59 2 := ⟨(-54), by decide +kernel, rfl, by decide⟩
theorem dX9_marksDown_59 : jm_d cX9_marksDown 59 (.return_) 1 60 := ⟨by decide +kernel, rfl⟩
set_option maxHeartbeats 4000000 in
set_option maxRecDepth 100000 in
theorem kM_marksDown (E : jm_Ev) (hE : jm_dj E jm_LM) {M : jm_M}  {r : jm_M} (h : sM_marksDown M = some r) : jm_Ct E jm_LM yX9_marksDown cX9_marksDown 3 none 7 162 [.ref (jm_a E 0 0)] M none r := by
  refine jm_enter (lv := [some (.ref (jm_a E 0 0)), none, none]) hE (by decide) (Nat.le_of_ble_eq_true rfl) rfl ?_
  intro z w F hz
  have G : jm_G w 0 [some (.ref (jm_a E 0 0)), none, none] [] M (sM_marksDown M) (fun e => z none e) := by
    unfold sM_marksDown
    refine jm_iconst F dX9_marksDown_0 kc_0 ?_
    refine jm_istore_n (i := 1) (lv' := [some (.ref (jm_a E 0 0)), some (.int 0), none]) F dX9_marksDown_1 rfl (by decide) rfl rfl ?_
    refine jm_bind (pcJ := 59) (lvJ := fun e11 => [none, none, none]) (stJ := fun _ => []) (MJ := fun e11 => e11) ?_ (fun e11 => ?_)
    · refine jm_weak F (lv' := [some (.ref (jm_a E 0 0)), some (.int 0), none]) ⟨rfl, rfl, trivial⟩ ?_
      refine jm_loopR (lvH := fun s1 => [some (.ref (jm_a E 0 0)), some (.int s1.1), none]) (MH := fun s1 => s1.2) (fun s1 => ?_) jm_N (0, M)
      unfold sM_marksDown_L2
      refine jm_iload_n (i := 1) F dX9_marksDown_2 rfl rfl ?_
      refine jm_aload_n (i := 0) F dX9_marksDown_3 rfl rfl ?_
      refine jm_getI F dX9_marksDown_4 fl_X9_91 lo_X9 rfl ?_
      refine jm_icmp_ge F dX9_marksDown_7 (fun c2 => ?_) (fun c2 => ?_)
      · exact jm_weakD F (lv' := [none, none, none]) trivial (fun h => h)
      · refine jm_iload_n (i := 1) F dX9_marksDown_10 rfl rfl ?_
        refine jm_iconst F dX9_marksDown_11 kc_1 ?_
        refine jm_iadd F dX9_marksDown_12 ?_
        refine jm_nameI (f := fun x3 => [.int x3]) (fun x3 => ?_) rfl
        refine jm_istore_n (i := 2) (lv' := [some (.ref (jm_a E 0 0)), some (.int s1.1), some (.int x3)]) F dX9_marksDown_13 rfl (by decide) rfl rfl ?_
        refine jm_bind (pcJ := 53) (lvJ := fun e10 => [some (.ref (jm_a E 0 0)), some (.int s1.1), none]) (stJ := fun _ => []) (MJ := fun e10 => e10) ?_ (fun e10 => ?_)
        · refine jm_weak F (lv' := [some (.ref (jm_a E 0 0)), some (.int s1.1), some (.int x3)]) ⟨rfl, rfl, rfl, trivial⟩ ?_
          refine jm_loopR (lvH := fun s4 => [some (.ref (jm_a E 0 0)), some (.int s1.1), some (.int s4.1)]) (MH := fun s4 => s4.2) (fun s4 => ?_) jm_N (x3, s1.2)
          unfold sM_marksDown_L14
          refine jm_iload_n (i := 2) F dX9_marksDown_14 rfl rfl ?_
          refine jm_aload_n (i := 0) F dX9_marksDown_15 rfl rfl ?_
          refine jm_getI F dX9_marksDown_16 fl_X9_91 lo_X9 rfl ?_
          refine jm_icmp_ge F dX9_marksDown_19 (fun c5 => ?_) (fun c5 => ?_)
          · exact jm_weakD F (lv' := [some (.ref (jm_a E 0 0)), some (.int s1.1), none]) ⟨rfl, rfl, trivial⟩ (fun h => h)
          · refine jm_aload_n (i := 0) F dX9_marksDown_22 rfl rfl ?_
            refine jm_getR F dX9_marksDown_23 fl_X9_76 lo_X9 rfl ?_
            refine jm_bipush F dX9_marksDown_26 kb_6 ?_
            refine jm_iload_n (i := 1) F dX9_marksDown_28 rfl rfl ?_
            refine jm_imul F dX9_marksDown_29 ?_
            refine jm_iload_n (i := 2) F dX9_marksDown_30 rfl rfl ?_
            refine jm_iadd F dX9_marksDown_31 ?_
            refine jm_aload_n (i := 0) F dX9_marksDown_32 rfl rfl ?_
            refine jm_iload_n (i := 1) F dX9_marksDown_33 rfl rfl ?_
            refine jm_iload_n (i := 2) F dX9_marksDown_34 rfl rfl ?_
            refine jm_callV (As := [.int s1.1, .int s4.1]) (st := [.int ((6 * s1.1) + s4.1), .ref (jm_a E 0 38)]) (rv := fun r => some (.int r)) (mm := fun _ => s4.2) F dX9_marksDown_35 qX9_313 rfl lo_X9 rfl (fun r h => kM_comesDown E hE h) rfl (Nat.le_of_ble_eq_true rfl) ⟨Nat.le_of_ble_eq_true rfl, Nat.le_of_ble_eq_true rfl⟩ (fun r6 => ?_)
            refine jm_bind (pcJ := 46) (lvJ := fun e7 => [some (.ref (jm_a E 0 0)), some (.int s1.1), some (.int s4.1)]) (stJ := fun e7 => [.int e7, .int ((6 * s1.1) + s4.1), .ref (jm_a E 0 38)]) (MJ := fun e7 => s4.2) ?_ (fun e7 => ?_)
            · refine jm_if_eq F dX9_marksDown_38 (fun c8 => ?_) (fun c8 => ?_)
              · refine jm_iconst F dX9_marksDown_45 kc_0 ?_
                exact jm_weakD F (lv' := [some (.ref (jm_a E 0 0)), some (.int s1.1), some (.int s4.1)]) ⟨rfl, rfl, rfl, trivial⟩ (fun h => h)
              · refine jm_iconst F dX9_marksDown_41 kc_1 ?_
                refine jm_goto F dX9_marksDown_42 ?_
                exact jm_weakD F (lv' := [some (.ref (jm_a E 0 0)), some (.int s1.1), some (.int s4.1)]) ⟨rfl, rfl, rfl, trivial⟩ (fun h => h)
            · refine jm_iast F dX9_marksDown_46 la_X9_38 (fun M9 => ?_)
              refine jm_iinc (i := 2) (lv' := [some (.ref (jm_a E 0 0)), some (.int s1.1), some (.int (s4.1 + 1))]) F dX9_marksDown_47 kc_1 rfl (by decide) rfl rfl ?_
              refine jm_goto F dX9_marksDown_50 ?_
              exact jm_weakD F (lv' := [some (.ref (jm_a E 0 0)), some (.int s1.1), some (.int (s4.1 + 1))]) ⟨rfl, rfl, rfl, trivial⟩ (fun h => h)
        · refine jm_iinc (i := 1) (lv' := [some (.ref (jm_a E 0 0)), some (.int (s1.1 + 1)), none]) F dX9_marksDown_53 kc_1 rfl (by decide) rfl rfl ?_
          refine jm_goto F dX9_marksDown_56 ?_
          exact jm_weakD F (lv' := [some (.ref (jm_a E 0 0)), some (.int (s1.1 + 1)), none]) ⟨rfl, rfl, trivial⟩ (fun h => h)
    · exact jm_vret F dX9_marksDown_59 (fun h => h)
  exact G r h hz
theorem dX9_firstDown_0 : jm_d cX9_firstDown 0 (.iconst 0) 1 1 := ⟨by decide +kernel, rfl⟩
theorem dX9_firstDown_1 : jm_d cX9_firstDown 1 (.istore_n 1) 1 2 := ⟨by decide +kernel, rfl⟩
theorem dX9_firstDown_2 : jm_d cX9_firstDown 2 (.iload_n 1) 1 3 := ⟨by decide +kernel, rfl⟩
theorem dX9_firstDown_3 : jm_d cX9_firstDown 3 (.aload_n 0) 1 4 := ⟨by decide +kernel, rfl⟩
theorem dX9_firstDown_4 : jm_d cX9_firstDown 4 (.getfield 91) 3 7 := ⟨by decide +kernel, rfl⟩
theorem dX9_firstDown_7 : jm_b cX9_firstDown 7 (.if_icmp .ge) 10 64 := ⟨57, by decide +kernel, rfl, by decide⟩
theorem dX9_firstDown_10 : jm_d cX9_firstDown 10 (.iload_n 1) 1 11 := ⟨by decide +kernel, rfl⟩
theorem dX9_firstDown_11 : jm_d cX9_firstDown 11 (.iconst 1) 1 12 := ⟨by decide +kernel, rfl⟩
theorem dX9_firstDown_12 : jm_d cX9_firstDown 12 (.iadd) 1 13 := ⟨by decide +kernel, rfl⟩
theorem dX9_firstDown_13 : jm_d cX9_firstDown 13 (.istore_n 2) 1 14 := ⟨by decide +kernel, rfl⟩
theorem dX9_firstDown_14 : jm_d cX9_firstDown 14 (.iload_n 2) 1 15 := ⟨by decide +kernel, rfl⟩
theorem dX9_firstDown_15 : jm_d cX9_firstDown 15 (.aload_n 0) 1 16 := ⟨by decide +kernel, rfl⟩
theorem dX9_firstDown_16 : jm_d cX9_firstDown 16 (.getfield 91) 3 19 := ⟨by decide +kernel, rfl⟩
theorem dX9_firstDown_19 : jm_b cX9_firstDown 19 (.if_icmp .ge) 22 58 := ⟨39, by decide +kernel, rfl, by decide⟩
theorem dX9_firstDown_22 : jm_d cX9_firstDown 22 (.aload_n 0) 1 23 := ⟨by decide +kernel, rfl⟩
theorem dX9_firstDown_23 : jm_d cX9_firstDown 23 (.getfield 76) 3 26 := ⟨by decide +kernel, rfl⟩
theorem dX9_firstDown_26 : jm_d cX9_firstDown 26 (.bipush 6) 2 28 := ⟨by decide +kernel, rfl⟩
theorem dX9_firstDown_28 : jm_d cX9_firstDown 28 (.iload_n 1) 1 29 := ⟨by decide +kernel, rfl⟩
theorem dX9_firstDown_29 : jm_d cX9_firstDown 29 (.imul) 1 30 := ⟨by decide +kernel, rfl⟩
theorem dX9_firstDown_30 : jm_d cX9_firstDown 30 (.iload_n 2) 1 31 := ⟨by decide +kernel, rfl⟩
theorem dX9_firstDown_31 : jm_d cX9_firstDown 31 (.iadd) 1 32 := ⟨by decide +kernel, rfl⟩
theorem dX9_firstDown_32 : jm_d cX9_firstDown 32 (.iaload) 1 33 := ⟨by decide +kernel, rfl⟩
theorem dX9_firstDown_33 : jm_b cX9_firstDown 33 (.ifCond .ne) 36 52 := ⟨19, by decide +kernel, rfl, by decide⟩
theorem dX9_firstDown_36 : jm_d cX9_firstDown 36 (.aload_n 0) 1 37 := ⟨by decide +kernel, rfl⟩
theorem dX9_firstDown_37 : jm_d cX9_firstDown 37 (.iload_n 1) 1 38 := ⟨by decide +kernel, rfl⟩
theorem dX9_firstDown_38 : jm_d cX9_firstDown 38 (.iload_n 2) 1 39 := ⟨by decide +kernel, rfl⟩
theorem dX9_firstDown_39 : jm_d cX9_firstDown 39 (.invokevirtual 313) 3 42 := ⟨by decide +kernel, rfl⟩
theorem dX9_firstDown_42 : jm_b cX9_firstDown 42 (.ifCond .eq) 45 52 := ⟨10, by decide +kernel, rfl, by decide⟩
theorem dX9_firstDown_52 : jm_d cX9_firstDown 52 (.iinc 2 1) 3 55 := ⟨by decide +kernel, rfl⟩
theorem dX9_firstDown_55 : jm_b cX9_firstDown 55 .goto 58 14 := ⟨(-41), by decide +kernel, rfl, by decide⟩
theorem dX9_firstDown_45 : jm_d cX9_firstDown 45 (.bipush 10) 2 47 := ⟨by decide +kernel, rfl⟩
theorem dX9_firstDown_47 : jm_d cX9_firstDown 47 (.iload_n 1) 1 48 := ⟨by decide +kernel, rfl⟩
theorem dX9_firstDown_48 : jm_d cX9_firstDown 48 (.imul) 1 49 := ⟨by decide +kernel, rfl⟩
theorem dX9_firstDown_49 : jm_d cX9_firstDown 49 (.iload_n 2) 1 50 := ⟨by decide +kernel, rfl⟩
theorem dX9_firstDown_50 : jm_d cX9_firstDown 50 (.iadd) 1 51 := ⟨by decide +kernel, rfl⟩
theorem dX9_firstDown_51 : jm_d cX9_firstDown 51 (.ireturn) 1 52 := ⟨by decide +kernel, rfl⟩
theorem dX9_firstDown_58 : jm_d cX9_firstDown 58 (.iinc 1 1) 3 61 := ⟨by decide +kernel, rfl⟩
theorem dX9_firstDown_61 : jm_b cX9_firstDown 61 .goto 64 2 := ⟨(-59), by decide +kernel, rfl, by decide⟩
theorem dX9_firstDown_64 : jm_d cX9_firstDown 64 (.bipush (-9)) 2 66 := ⟨by decide +kernel, rfl⟩
theorem dX9_firstDown_66 : jm_d cX9_firstDown 66 (.ireturn) 1 67 := ⟨by decide +kernel, rfl⟩
set_option maxHeartbeats 4000000 in
set_option maxRecDepth 100000 in
theorem kM_firstDown (E : jm_Ev) (hE : jm_dj E jm_LM) {M : jm_M}  {r : Int32} (h : sM_firstDown M = some r) : jm_Ct E jm_LM yX9_firstDown cX9_firstDown 3 (some .int) 7 162 [.ref (jm_a E 0 0)] M (some (.int r)) M := by
  refine jm_enter (lv := [some (.ref (jm_a E 0 0)), none, none]) hE (by decide) (Nat.le_of_ble_eq_true rfl) rfl ?_
  intro z w F hz
  have G : jm_G w 0 [some (.ref (jm_a E 0 0)), none, none] [] M (sM_firstDown M) (fun e => z (some (.int e)) M) := by
    unfold sM_firstDown
    refine jm_iconst F dX9_firstDown_0 kc_0 ?_
    refine jm_istore_n (i := 1) (lv' := [some (.ref (jm_a E 0 0)), some (.int 0), none]) F dX9_firstDown_1 rfl (by decide) rfl rfl ?_
    refine jm_bindS (pcJ := 64) (lvJ := fun e11 => [none, none, none]) (stJ := fun _ => []) (MJ := fun e11 => M) ?_ (fun e11 => ?_)
    · refine jm_weak F (lv' := [some (.ref (jm_a E 0 0)), some (.int 0), none]) ⟨rfl, rfl, trivial⟩ ?_
      refine jm_loopR (lvH := fun s1 => [some (.ref (jm_a E 0 0)), some (.int s1), none]) (MH := fun s1 => M) (fun s1 => ?_) jm_N 0
      unfold sM_firstDown_L2
      refine jm_iload_n (i := 1) F dX9_firstDown_2 rfl rfl ?_
      refine jm_aload_n (i := 0) F dX9_firstDown_3 rfl rfl ?_
      refine jm_getI F dX9_firstDown_4 fl_X9_91 lo_X9 rfl ?_
      refine jm_icmp_ge F dX9_firstDown_7 (fun c2 => ?_) (fun c2 => ?_)
      · exact jm_weakD F (lv' := [none, none, none]) trivial (fun h => h)
      · refine jm_iload_n (i := 1) F dX9_firstDown_10 rfl rfl ?_
        refine jm_iconst F dX9_firstDown_11 kc_1 ?_
        refine jm_iadd F dX9_firstDown_12 ?_
        refine jm_nameI (f := fun x3 => [.int x3]) (fun x3 => ?_) rfl
        refine jm_istore_n (i := 2) (lv' := [some (.ref (jm_a E 0 0)), some (.int s1), some (.int x3)]) F dX9_firstDown_13 rfl (by decide) rfl rfl ?_
        refine jm_bindS (pcJ := 58) (lvJ := fun e10 => [some (.ref (jm_a E 0 0)), some (.int s1), none]) (stJ := fun _ => []) (MJ := fun e10 => M) ?_ (fun e10 => ?_)
        · refine jm_weak F (lv' := [some (.ref (jm_a E 0 0)), some (.int s1), some (.int x3)]) ⟨rfl, rfl, rfl, trivial⟩ ?_
          refine jm_loopR (lvH := fun s4 => [some (.ref (jm_a E 0 0)), some (.int s1), some (.int s4)]) (MH := fun s4 => M) (fun s4 => ?_) jm_N x3
          unfold sM_firstDown_L14
          refine jm_iload_n (i := 2) F dX9_firstDown_14 rfl rfl ?_
          refine jm_aload_n (i := 0) F dX9_firstDown_15 rfl rfl ?_
          refine jm_getI F dX9_firstDown_16 fl_X9_91 lo_X9 rfl ?_
          refine jm_icmp_ge F dX9_firstDown_19 (fun c5 => ?_) (fun c5 => ?_)
          · exact jm_weakD F (lv' := [some (.ref (jm_a E 0 0)), some (.int s1), none]) ⟨rfl, rfl, trivial⟩ (fun h => h)
          · refine jm_aload_n (i := 0) F dX9_firstDown_22 rfl rfl ?_
            refine jm_getR F dX9_firstDown_23 fl_X9_76 lo_X9 rfl ?_
            refine jm_bipush F dX9_firstDown_26 kb_6 ?_
            refine jm_iload_n (i := 1) F dX9_firstDown_28 rfl rfl ?_
            refine jm_imul F dX9_firstDown_29 ?_
            refine jm_iload_n (i := 2) F dX9_firstDown_30 rfl rfl ?_
            refine jm_iadd F dX9_firstDown_31 ?_
            refine jm_iald F dX9_firstDown_32 la_X9_38 (fun v6 => ?_)
            refine jm_if_ne F dX9_firstDown_33 (fun c7 => ?_) (fun c7 => ?_)
            · refine jm_aload_n (i := 0) F dX9_firstDown_36 rfl rfl ?_
              refine jm_iload_n (i := 1) F dX9_firstDown_37 rfl rfl ?_
              refine jm_iload_n (i := 2) F dX9_firstDown_38 rfl rfl ?_
              refine jm_callV (As := [.int s1, .int s4]) (st := []) (rv := fun r => some (.int r)) (mm := fun _ => M) F dX9_firstDown_39 qX9_313 rfl lo_X9 rfl (fun r h => kM_comesDown E hE h) rfl (Nat.le_of_ble_eq_true rfl) ⟨Nat.le_of_ble_eq_true rfl, Nat.le_of_ble_eq_true rfl⟩ (fun r8 => ?_)
              refine jm_if_eq F dX9_firstDown_42 (fun c9 => ?_) (fun c9 => ?_)
              · refine jm_iinc (i := 2) (lv' := [some (.ref (jm_a E 0 0)), some (.int s1), some (.int (s4 + 1))]) F dX9_firstDown_52 kc_1 rfl (by decide) rfl rfl ?_
                refine jm_goto F dX9_firstDown_55 ?_
                exact jm_weakD F (lv' := [some (.ref (jm_a E 0 0)), some (.int s1), some (.int (s4 + 1))]) ⟨rfl, rfl, rfl, trivial⟩ (fun h => h)
              · refine jm_bipush F dX9_firstDown_45 kb_10 ?_
                refine jm_iload_n (i := 1) F dX9_firstDown_47 rfl rfl ?_
                refine jm_imul F dX9_firstDown_48 ?_
                refine jm_iload_n (i := 2) F dX9_firstDown_49 rfl rfl ?_
                refine jm_iadd F dX9_firstDown_50 ?_
                exact jm_iret F dX9_firstDown_51 (fun h => h)
            · refine jm_iinc (i := 2) (lv' := [some (.ref (jm_a E 0 0)), some (.int s1), some (.int (s4 + 1))]) F dX9_firstDown_52 kc_1 rfl (by decide) rfl rfl ?_
              refine jm_goto F dX9_firstDown_55 ?_
              exact jm_weakD F (lv' := [some (.ref (jm_a E 0 0)), some (.int s1), some (.int (s4 + 1))]) ⟨rfl, rfl, rfl, trivial⟩ (fun h => h)
        · refine jm_iinc (i := 1) (lv' := [some (.ref (jm_a E 0 0)), some (.int (s1 + 1)), none]) F dX9_firstDown_58 kc_1 rfl (by decide) rfl rfl ?_
          refine jm_goto F dX9_firstDown_61 ?_
          exact jm_weakD F (lv' := [some (.ref (jm_a E 0 0)), some (.int (s1 + 1)), none]) ⟨rfl, rfl, trivial⟩ (fun h => h)
    · refine jm_bipush F dX9_firstDown_64 kb_m9 ?_
      exact jm_iret F dX9_firstDown_66 (fun h => h)
  exact G r h hz
theorem dX9_first_0 : jm_d cX9_first 0 (.aload_n 0) 1 1 := ⟨by decide +kernel, rfl⟩
theorem dX9_first_1 : jm_d cX9_first 1 (.invokevirtual 319) 3 4 := ⟨by decide +kernel, rfl⟩
theorem dX9_first_4 : jm_d cX9_first 4 (.bipush (-9)) 2 6 := ⟨by decide +kernel, rfl⟩
theorem dX9_first_6 : jm_d cX9_first 6 (.istore_n 1) 1 7 := ⟨by decide +kernel, rfl⟩
theorem dX9_first_7 : jm_d cX9_first 7 (.aload_n 0) 1 8 := ⟨by decide +kernel, rfl⟩
theorem dX9_first_8 : jm_d cX9_first 8 (.invokevirtual 307) 3 11 := ⟨by decide +kernel, rfl⟩
theorem dX9_first_11 : jm_d cX9_first 11 (.iconst 0) 1 12 := ⟨by decide +kernel, rfl⟩
theorem dX9_first_12 : jm_d cX9_first 12 (.istore_n 2) 1 13 := ⟨by decide +kernel, rfl⟩
theorem dX9_first_13 : jm_d cX9_first 13 (.iload_n 2) 1 14 := ⟨by decide +kernel, rfl⟩
theorem dX9_first_14 : jm_d cX9_first 14 (.bipush 60) 2 16 := ⟨by decide +kernel, rfl⟩
theorem dX9_first_16 : jm_b cX9_first 16 (.if_icmp .ge) 19 38 := ⟨22, by decide +kernel, rfl, by decide⟩
theorem dX9_first_19 : jm_d cX9_first 19 (.iload_n 1) 1 20 := ⟨by decide +kernel, rfl⟩
theorem dX9_first_20 : jm_b cX9_first 20 (.ifCond .ge) 23 38 := ⟨18, by decide +kernel, rfl, by decide⟩
theorem dX9_first_23 : jm_d cX9_first 23 (.aload_n 0) 1 24 := ⟨by decide +kernel, rfl⟩
theorem dX9_first_24 : jm_d cX9_first 24 (.invokevirtual 163) 3 27 := ⟨by decide +kernel, rfl⟩
theorem dX9_first_27 : jm_d cX9_first 27 (.aload_n 0) 1 28 := ⟨by decide +kernel, rfl⟩
theorem dX9_first_28 : jm_d cX9_first 28 (.invokevirtual 322) 3 31 := ⟨by decide +kernel, rfl⟩
theorem dX9_first_31 : jm_d cX9_first 31 (.istore_n 1) 1 32 := ⟨by decide +kernel, rfl⟩
theorem dX9_first_32 : jm_d cX9_first 32 (.iinc 2 1) 3 35 := ⟨by decide +kernel, rfl⟩
theorem dX9_first_35 : jm_b cX9_first 35 .goto 38 13 := ⟨(-22), by decide +kernel, rfl, by decide⟩
theorem dX9_first_38 : jm_d cX9_first 38 (.aload_n 0) 1 39 := ⟨by decide +kernel, rfl⟩
theorem dX9_first_39 : jm_d cX9_first 39 (.invokevirtual 310) 3 42 := ⟨by decide +kernel, rfl⟩
theorem dX9_first_42 : jm_d cX9_first 42 (.iload_n 1) 1 43 := ⟨by decide +kernel, rfl⟩
theorem dX9_first_43 : jm_d cX9_first 43 (.ireturn) 1 44 := ⟨by decide +kernel, rfl⟩
set_option maxHeartbeats 4000000 in
set_option maxRecDepth 100000 in
theorem kM_first (E : jm_Ev) (hE : jm_dj E jm_LM) {M : jm_M}  {r : Int32 × jm_M} (h : sM_first M = some r) : jm_Ct E jm_LM yX9_first cX9_first 3 (some .int) 8 184 [.ref (jm_a E 0 0)] M (some (.int r.1)) r.2 := by
  refine jm_enter (lv := [some (.ref (jm_a E 0 0)), none, none]) hE (by decide) (Nat.le_of_ble_eq_true rfl) rfl ?_
  intro z w F hz
  have G : jm_G w 0 [some (.ref (jm_a E 0 0)), none, none] [] M (sM_first M) (fun e => z (some (.int e.1)) e.2) := by
    unfold sM_first
    refine jm_aload_n (i := 0) F dX9_first_0 rfl rfl ?_
    refine jm_callV (As := []) (st := []) (rv := fun _ => none) (mm := fun r => r) F dX9_first_1 qX9_319 rfl lo_X9 rfl (fun r h => kM_marksDown E hE h) rfl (Nat.le_of_ble_eq_true rfl) ⟨Nat.le_of_ble_eq_true rfl, Nat.le_of_ble_eq_true rfl⟩ (fun r1 => ?_)
    refine jm_bipush F dX9_first_4 kb_m9 ?_
    refine jm_istore_n (i := 1) (lv' := [some (.ref (jm_a E 0 0)), some (.int (-9)), none]) F dX9_first_6 rfl (by decide) rfl rfl ?_
    refine jm_aload_n (i := 0) F dX9_first_7 rfl rfl ?_
    refine jm_callV (As := []) (st := []) (rv := fun _ => none) (mm := fun r => r) F dX9_first_8 qX9_307 rfl lo_X9 rfl (fun r h => kM_minds E hE h) rfl (Nat.le_of_ble_eq_true rfl) ⟨Nat.le_of_ble_eq_true rfl, Nat.le_of_ble_eq_true rfl⟩ (fun r2 => ?_)
    refine jm_iconst F dX9_first_11 kc_0 ?_
    refine jm_istore_n (i := 2) (lv' := [some (.ref (jm_a E 0 0)), some (.int (-9)), some (.int 0)]) F dX9_first_12 rfl (by decide) rfl rfl ?_
    refine jm_bind (pcJ := 38) (lvJ := fun e8 => [some (.ref (jm_a E 0 0)), some (.int e8.1), none]) (stJ := fun _ => []) (MJ := fun e8 => e8.2) ?_ (fun e8 => ?_)
    · refine jm_weak F (lv' := [some (.ref (jm_a E 0 0)), some (.int (-9)), some (.int 0)]) ⟨rfl, rfl, rfl, trivial⟩ ?_
      refine jm_loopR (lvH := fun s3 => [some (.ref (jm_a E 0 0)), some (.int s3.1), some (.int s3.2.1)]) (MH := fun s3 => s3.2.2) (fun s3 => ?_) jm_N ((-9), 0, r2)
      unfold sM_first_L13
      refine jm_iload_n (i := 2) F dX9_first_13 rfl rfl ?_
      refine jm_bipush F dX9_first_14 kb_60 ?_
      refine jm_icmp_ge F dX9_first_16 (fun c4 => ?_) (fun c4 => ?_)
      · exact jm_weakD F (lv' := [some (.ref (jm_a E 0 0)), some (.int s3.1), none]) ⟨rfl, rfl, trivial⟩ (fun h => h)
      · refine jm_iload_n (i := 1) F dX9_first_19 rfl rfl ?_
        refine jm_if_ge F dX9_first_20 (fun c5 => ?_) (fun c5 => ?_)
        · exact jm_weakD F (lv' := [some (.ref (jm_a E 0 0)), some (.int s3.1), none]) ⟨rfl, rfl, trivial⟩ (fun h => h)
        · refine jm_aload_n (i := 0) F dX9_first_23 rfl rfl ?_
          refine jm_callV (As := []) (st := []) (rv := fun _ => none) (mm := fun r => r) F dX9_first_24 qX9_163 rfl lo_X9 rfl (fun r h => kM_goesWeek E hE h) rfl (Nat.le_of_ble_eq_true rfl) ⟨Nat.le_of_ble_eq_true rfl, Nat.le_of_ble_eq_true rfl⟩ (fun r6 => ?_)
          refine jm_aload_n (i := 0) F dX9_first_27 rfl rfl ?_
          refine jm_callV (As := []) (st := []) (rv := fun r => some (.int r)) (mm := fun _ => r6) F dX9_first_28 qX9_322 rfl lo_X9 rfl (fun r h => kM_firstDown E hE h) rfl (Nat.le_of_ble_eq_true rfl) ⟨Nat.le_of_ble_eq_true rfl, Nat.le_of_ble_eq_true rfl⟩ (fun r7 => ?_)
          refine jm_istore_n (i := 1) (lv' := [some (.ref (jm_a E 0 0)), some (.int r7), some (.int s3.2.1)]) F dX9_first_31 rfl (by decide) rfl rfl ?_
          refine jm_iinc (i := 2) (lv' := [some (.ref (jm_a E 0 0)), some (.int r7), some (.int (s3.2.1 + 1))]) F dX9_first_32 kc_1 rfl (by decide) rfl rfl ?_
          refine jm_goto F dX9_first_35 ?_
          exact jm_weakD F (lv' := [some (.ref (jm_a E 0 0)), some (.int r7), some (.int (s3.2.1 + 1))]) ⟨rfl, rfl, rfl, trivial⟩ (fun h => h)
    · refine jm_aload_n (i := 0) F dX9_first_38 rfl rfl ?_
      refine jm_callV (As := []) (st := []) (rv := fun _ => none) (mm := fun r => r) F dX9_first_39 qX9_310 rfl lo_X9 rfl (fun r h => kM_forgets E hE h) rfl (Nat.le_of_ble_eq_true rfl) ⟨Nat.le_of_ble_eq_true rfl, Nat.le_of_ble_eq_true rfl⟩ (fun r9 => ?_)
      refine jm_iload_n (i := 1) F dX9_first_42 rfl rfl ?_
      exact jm_iret F dX9_first_43 (fun h => h)
  exact G r h hz
theorem dX9_pricesOf_0 : jm_d cX9_pricesOf 0 (.iconst 0) 1 1 := ⟨by decide +kernel, rfl⟩
theorem dX9_pricesOf_1 : jm_d cX9_pricesOf 1 (.istore_n 2) 1 2 := ⟨by decide +kernel, rfl⟩
theorem dX9_pricesOf_2 : jm_d cX9_pricesOf 2 (.iconst 0) 1 3 := ⟨by decide +kernel, rfl⟩
theorem dX9_pricesOf_3 : jm_d cX9_pricesOf 3 (.istore_n 3) 1 4 := ⟨by decide +kernel, rfl⟩
theorem dX9_pricesOf_4 : jm_d cX9_pricesOf 4 (.iload_n 3) 1 5 := ⟨by decide +kernel, rfl⟩
theorem dX9_pricesOf_5 : jm_d cX9_pricesOf 5 (.aload_n 0) 1 6 := ⟨by decide +kernel, rfl⟩
theorem dX9_pricesOf_6 : jm_d cX9_pricesOf 6 (.getfield 106) 3 9 := ⟨by decide +kernel, rfl⟩
theorem dX9_pricesOf_9 : jm_b cX9_pricesOf 9 (.if_icmp .ge) 12 38 := ⟨29, by decide +kernel, rfl, by decide⟩
theorem dX9_pricesOf_12 : jm_d cX9_pricesOf 12 (.iload_n 2) 1 13 := ⟨by decide +kernel, rfl⟩
theorem dX9_pricesOf_13 : jm_d cX9_pricesOf 13 (.iload_n 1) 1 14 := ⟨by decide +kernel, rfl⟩
theorem dX9_pricesOf_14 : jm_d cX9_pricesOf 14 (.iload_n 3) 1 15 := ⟨by decide +kernel, rfl⟩
theorem dX9_pricesOf_15 : jm_d cX9_pricesOf 15 (.invokestatic 132) 3 18 := ⟨by decide +kernel, rfl⟩
theorem dX9_pricesOf_18 : jm_b cX9_pricesOf 18 (.ifCond .eq) 21 29 := ⟨11, by decide +kernel, rfl, by decide⟩
theorem dX9_pricesOf_29 : jm_d cX9_pricesOf 29 (.iconst 0) 1 30 := ⟨by decide +kernel, rfl⟩
theorem dX9_pricesOf_30 : jm_d cX9_pricesOf 30 (.iadd) 1 31 := ⟨by decide +kernel, rfl⟩
theorem dX9_pricesOf_31 : jm_d cX9_pricesOf 31 (.istore_n 2) 1 32 := ⟨by decide +kernel, rfl⟩
theorem dX9_pricesOf_32 : jm_d cX9_pricesOf 32 (.iinc 3 1) 3 35 := ⟨by decide +kernel, rfl⟩
theorem dX9_pricesOf_35 : jm_b cX9_pricesOf 35 .goto 38 4 := ⟨(-31), by decide +kernel, rfl, by decide⟩
theorem dX9_pricesOf_21 : jm_d cX9_pricesOf 21 (.aload_n 0) 1 22 := ⟨by decide +kernel, rfl⟩
theorem dX9_pricesOf_22 : jm_d cX9_pricesOf 22 (.iload_n 3) 1 23 := ⟨by decide +kernel, rfl⟩
theorem dX9_pricesOf_23 : jm_d cX9_pricesOf 23 (.invokevirtual 292) 3 26 := ⟨by decide +kernel, rfl⟩
theorem dX9_pricesOf_26 : jm_b cX9_pricesOf 26 .goto 29 30 := ⟨4, by decide +kernel, rfl, by decide⟩
theorem dX9_pricesOf_38 : jm_d cX9_pricesOf 38 (.iload_n 2) 1 39 := ⟨by decide +kernel, rfl⟩
theorem dX9_pricesOf_39 : jm_d cX9_pricesOf 39 (.ireturn) 1 40 := ⟨by decide +kernel, rfl⟩
set_option maxHeartbeats 4000000 in
set_option maxRecDepth 100000 in
theorem kM_pricesOf (E : jm_Ev) (hE : jm_dj E jm_LM) {M : jm_M} {p1 : Int32}  {r : Int32} (h : sM_pricesOf M p1 = some r) : jm_Ct E jm_LM yX9_pricesOf cX9_pricesOf 4 (some .int) 1 22 [.ref (jm_a E 0 0), .int p1] M (some (.int r)) M := by
  refine jm_enter (lv := [some (.ref (jm_a E 0 0)), some (.int p1), none, none]) hE (by decide) (Nat.le_of_ble_eq_true rfl) rfl ?_
  intro z w F hz
  have G : jm_G w 0 [some (.ref (jm_a E 0 0)), some (.int p1), none, none] [] M (sM_pricesOf M p1) (fun e => z (some (.int e)) M) := by
    unfold sM_pricesOf
    refine jm_iconst F dX9_pricesOf_0 kc_0 ?_
    refine jm_istore_n (i := 2) (lv' := [some (.ref (jm_a E 0 0)), some (.int p1), some (.int 0), none]) F dX9_pricesOf_1 rfl (by decide) rfl rfl ?_
    refine jm_iconst F dX9_pricesOf_2 kc_0 ?_
    refine jm_istore_n (i := 3) (lv' := [some (.ref (jm_a E 0 0)), some (.int p1), some (.int 0), some (.int 0)]) F dX9_pricesOf_3 rfl (by decide) rfl rfl ?_
    refine jm_bind (pcJ := 38) (lvJ := fun e8 => [none, none, some (.int e8), none]) (stJ := fun _ => []) (MJ := fun e8 => M) ?_ (fun e8 => ?_)
    · refine jm_weak F (lv' := [some (.ref (jm_a E 0 0)), some (.int p1), some (.int 0), some (.int 0)]) ⟨rfl, rfl, rfl, rfl, trivial⟩ ?_
      refine jm_loopR (lvH := fun s1 => [some (.ref (jm_a E 0 0)), some (.int p1), some (.int s1.1), some (.int s1.2)]) (MH := fun s1 => M) (fun s1 => ?_) jm_N (0, 0)
      unfold sM_pricesOf_L4
      refine jm_iload_n (i := 3) F dX9_pricesOf_4 rfl rfl ?_
      refine jm_aload_n (i := 0) F dX9_pricesOf_5 rfl rfl ?_
      refine jm_getI F dX9_pricesOf_6 fl_X9_106 lo_X9 rfl ?_
      refine jm_icmp_ge F dX9_pricesOf_9 (fun c2 => ?_) (fun c2 => ?_)
      · exact jm_weakD F (lv' := [none, none, some (.int s1.1), none]) ⟨rfl, trivial⟩ (fun h => h)
      · refine jm_iload_n (i := 2) F dX9_pricesOf_12 rfl rfl ?_
        refine jm_iload_n (i := 1) F dX9_pricesOf_13 rfl rfl ?_
        refine jm_iload_n (i := 3) F dX9_pricesOf_14 rfl rfl ?_
        refine jm_callS (As := [.int p1, .int s1.2]) (st := [.int s1.1]) (rv := fun r => some (.int r)) (mm := fun _ => M) F dX9_pricesOf_15 qX9_132 rfl (fun r h => kM_has E hE h) rfl (Nat.le_of_ble_eq_true rfl) ⟨Nat.le_of_ble_eq_true rfl, Nat.le_of_ble_eq_true rfl⟩ (fun r3 => ?_)
        refine jm_if_eq F dX9_pricesOf_18 (fun c4 => ?_) (fun c4 => ?_)
        · refine jm_iconst F dX9_pricesOf_29 kc_0 ?_
          refine jm_iadd F dX9_pricesOf_30 ?_
          refine jm_nameI (f := fun x5 => [.int x5]) (fun x5 => ?_) rfl
          refine jm_istore_n (i := 2) (lv' := [some (.ref (jm_a E 0 0)), some (.int p1), some (.int x5), some (.int s1.2)]) F dX9_pricesOf_31 rfl (by decide) rfl rfl ?_
          refine jm_iinc (i := 3) (lv' := [some (.ref (jm_a E 0 0)), some (.int p1), some (.int x5), some (.int (s1.2 + 1))]) F dX9_pricesOf_32 kc_1 rfl (by decide) rfl rfl ?_
          refine jm_goto F dX9_pricesOf_35 ?_
          exact jm_weakD F (lv' := [some (.ref (jm_a E 0 0)), some (.int p1), some (.int x5), some (.int (s1.2 + 1))]) ⟨rfl, rfl, rfl, rfl, trivial⟩ (fun h => h)
        · refine jm_aload_n (i := 0) F dX9_pricesOf_21 rfl rfl ?_
          refine jm_iload_n (i := 3) F dX9_pricesOf_22 rfl rfl ?_
          refine jm_callV (As := [.int s1.2]) (st := [.int s1.1]) (rv := fun r => some (.int r)) (mm := fun _ => M) F dX9_pricesOf_23 qX9_292 rfl lo_X9 rfl (fun r h => kM_price E hE h) rfl (Nat.le_of_ble_eq_true rfl) ⟨Nat.le_of_ble_eq_true rfl, Nat.le_of_ble_eq_true rfl⟩ (fun r6 => ?_)
          refine jm_goto F dX9_pricesOf_26 ?_
          refine jm_iadd F dX9_pricesOf_30 ?_
          refine jm_nameI (f := fun x7 => [.int x7]) (fun x7 => ?_) rfl
          refine jm_istore_n (i := 2) (lv' := [some (.ref (jm_a E 0 0)), some (.int p1), some (.int x7), some (.int s1.2)]) F dX9_pricesOf_31 rfl (by decide) rfl rfl ?_
          refine jm_iinc (i := 3) (lv' := [some (.ref (jm_a E 0 0)), some (.int p1), some (.int x7), some (.int (s1.2 + 1))]) F dX9_pricesOf_32 kc_1 rfl (by decide) rfl rfl ?_
          refine jm_goto F dX9_pricesOf_35 ?_
          exact jm_weakD F (lv' := [some (.ref (jm_a E 0 0)), some (.int p1), some (.int x7), some (.int (s1.2 + 1))]) ⟨rfl, rfl, rfl, rfl, trivial⟩ (fun h => h)
    · refine jm_iload_n (i := 2) F dX9_pricesOf_38 rfl rfl ?_
      exact jm_iret F dX9_pricesOf_39 (fun h => h)
  exact G r h hz
theorem dX9_ownedBy_0 : jm_d cX9_ownedBy 0 (.iconst 0) 1 1 := ⟨by decide +kernel, rfl⟩
theorem dX9_ownedBy_1 : jm_d cX9_ownedBy 1 (.istore_n 2) 1 2 := ⟨by decide +kernel, rfl⟩
theorem dX9_ownedBy_2 : jm_d cX9_ownedBy 2 (.iconst 0) 1 3 := ⟨by decide +kernel, rfl⟩
theorem dX9_ownedBy_3 : jm_d cX9_ownedBy 3 (.istore_n 3) 1 4 := ⟨by decide +kernel, rfl⟩
theorem dX9_ownedBy_4 : jm_d cX9_ownedBy 4 (.iload_n 3) 1 5 := ⟨by decide +kernel, rfl⟩
theorem dX9_ownedBy_5 : jm_d cX9_ownedBy 5 (.aload_n 0) 1 6 := ⟨by decide +kernel, rfl⟩
theorem dX9_ownedBy_6 : jm_d cX9_ownedBy 6 (.getfield 106) 3 9 := ⟨by decide +kernel, rfl⟩
theorem dX9_ownedBy_9 : jm_b cX9_ownedBy 9 (.if_icmp .ge) 12 38 := ⟨29, by decide +kernel, rfl, by decide⟩
theorem dX9_ownedBy_12 : jm_d cX9_ownedBy 12 (.iload_n 2) 1 13 := ⟨by decide +kernel, rfl⟩
theorem dX9_ownedBy_13 : jm_d cX9_ownedBy 13 (.aload_n 0) 1 14 := ⟨by decide +kernel, rfl⟩
theorem dX9_ownedBy_14 : jm_d cX9_ownedBy 14 (.getfield 28) 3 17 := ⟨by decide +kernel, rfl⟩
theorem dX9_ownedBy_17 : jm_d cX9_ownedBy 17 (.iload_n 3) 1 18 := ⟨by decide +kernel, rfl⟩
theorem dX9_ownedBy_18 : jm_d cX9_ownedBy 18 (.iaload) 1 19 := ⟨by decide +kernel, rfl⟩
theorem dX9_ownedBy_19 : jm_d cX9_ownedBy 19 (.iload_n 1) 1 20 := ⟨by decide +kernel, rfl⟩
theorem dX9_ownedBy_20 : jm_b cX9_ownedBy 20 (.if_icmp .ne) 23 29 := ⟨9, by decide +kernel, rfl, by decide⟩
theorem dX9_ownedBy_23 : jm_d cX9_ownedBy 23 (.iconst 1) 1 24 := ⟨by decide +kernel, rfl⟩
theorem dX9_ownedBy_24 : jm_d cX9_ownedBy 24 (.iload_n 3) 1 25 := ⟨by decide +kernel, rfl⟩
theorem dX9_ownedBy_25 : jm_d cX9_ownedBy 25 (.ishl) 1 26 := ⟨by decide +kernel, rfl⟩
theorem dX9_ownedBy_26 : jm_b cX9_ownedBy 26 .goto 29 30 := ⟨4, by decide +kernel, rfl, by decide⟩
theorem dX9_ownedBy_30 : jm_d cX9_ownedBy 30 (.ior) 1 31 := ⟨by decide +kernel, rfl⟩
theorem dX9_ownedBy_31 : jm_d cX9_ownedBy 31 (.istore_n 2) 1 32 := ⟨by decide +kernel, rfl⟩
theorem dX9_ownedBy_32 : jm_d cX9_ownedBy 32 (.iinc 3 1) 3 35 := ⟨by decide +kernel, rfl⟩
theorem dX9_ownedBy_35 : jm_b cX9_ownedBy 35 .goto 38 4 := ⟨(-31), by decide +kernel, rfl, by decide⟩
theorem dX9_ownedBy_29 : jm_d cX9_ownedBy 29 (.iconst 0) 1 30 := ⟨by decide +kernel, rfl⟩
theorem dX9_ownedBy_38 : jm_d cX9_ownedBy 38 (.iload_n 2) 1 39 := ⟨by decide +kernel, rfl⟩
theorem dX9_ownedBy_39 : jm_d cX9_ownedBy 39 (.ireturn) 1 40 := ⟨by decide +kernel, rfl⟩
set_option maxHeartbeats 4000000 in
set_option maxRecDepth 100000 in
theorem kM_ownedBy (E : jm_Ev) (hE : jm_dj E jm_LM) {M : jm_M} {p1 : Int32}  {r : Int32} (h : sM_ownedBy M p1 = some r) : jm_Ct E jm_LM yX9_ownedBy cX9_ownedBy 4 (some .int) 0 0 [.ref (jm_a E 0 0), .int p1] M (some (.int r)) M := by
  refine jm_enter (lv := [some (.ref (jm_a E 0 0)), some (.int p1), none, none]) hE (by decide) (Nat.le_of_ble_eq_true rfl) rfl ?_
  intro z w F hz
  have G : jm_G w 0 [some (.ref (jm_a E 0 0)), some (.int p1), none, none] [] M (sM_ownedBy M p1) (fun e => z (some (.int e)) M) := by
    unfold sM_ownedBy
    refine jm_iconst F dX9_ownedBy_0 kc_0 ?_
    refine jm_istore_n (i := 2) (lv' := [some (.ref (jm_a E 0 0)), some (.int p1), some (.int 0), none]) F dX9_ownedBy_1 rfl (by decide) rfl rfl ?_
    refine jm_iconst F dX9_ownedBy_2 kc_0 ?_
    refine jm_istore_n (i := 3) (lv' := [some (.ref (jm_a E 0 0)), some (.int p1), some (.int 0), some (.int 0)]) F dX9_ownedBy_3 rfl (by decide) rfl rfl ?_
    refine jm_bind (pcJ := 38) (lvJ := fun e7 => [none, none, some (.int e7), none]) (stJ := fun _ => []) (MJ := fun e7 => M) ?_ (fun e7 => ?_)
    · refine jm_weak F (lv' := [some (.ref (jm_a E 0 0)), some (.int p1), some (.int 0), some (.int 0)]) ⟨rfl, rfl, rfl, rfl, trivial⟩ ?_
      refine jm_loopR (lvH := fun s1 => [some (.ref (jm_a E 0 0)), some (.int p1), some (.int s1.1), some (.int s1.2)]) (MH := fun s1 => M) (fun s1 => ?_) jm_N (0, 0)
      unfold sM_ownedBy_L4
      refine jm_iload_n (i := 3) F dX9_ownedBy_4 rfl rfl ?_
      refine jm_aload_n (i := 0) F dX9_ownedBy_5 rfl rfl ?_
      refine jm_getI F dX9_ownedBy_6 fl_X9_106 lo_X9 rfl ?_
      refine jm_icmp_ge F dX9_ownedBy_9 (fun c2 => ?_) (fun c2 => ?_)
      · exact jm_weakD F (lv' := [none, none, some (.int s1.1), none]) ⟨rfl, trivial⟩ (fun h => h)
      · refine jm_iload_n (i := 2) F dX9_ownedBy_12 rfl rfl ?_
        refine jm_aload_n (i := 0) F dX9_ownedBy_13 rfl rfl ?_
        refine jm_getR F dX9_ownedBy_14 fl_X9_28 lo_X9 rfl ?_
        refine jm_iload_n (i := 3) F dX9_ownedBy_17 rfl rfl ?_
        refine jm_iald F dX9_ownedBy_18 la_X9_7 (fun v3 => ?_)
        refine jm_iload_n (i := 1) F dX9_ownedBy_19 rfl rfl ?_
        refine jm_icmp_ne F dX9_ownedBy_20 (fun c4 => ?_) (fun c4 => ?_)
        · refine jm_iconst F dX9_ownedBy_23 kc_1 ?_
          refine jm_iload_n (i := 3) F dX9_ownedBy_24 rfl rfl ?_
          refine jm_ishl F dX9_ownedBy_25 ?_
          refine jm_goto F dX9_ownedBy_26 ?_
          refine jm_ior F dX9_ownedBy_30 ?_
          refine jm_nameI (f := fun x5 => [.int x5]) (fun x5 => ?_) rfl
          refine jm_istore_n (i := 2) (lv' := [some (.ref (jm_a E 0 0)), some (.int p1), some (.int x5), some (.int s1.2)]) F dX9_ownedBy_31 rfl (by decide) rfl rfl ?_
          refine jm_iinc (i := 3) (lv' := [some (.ref (jm_a E 0 0)), some (.int p1), some (.int x5), some (.int (s1.2 + 1))]) F dX9_ownedBy_32 kc_1 rfl (by decide) rfl rfl ?_
          refine jm_goto F dX9_ownedBy_35 ?_
          exact jm_weakD F (lv' := [some (.ref (jm_a E 0 0)), some (.int p1), some (.int x5), some (.int (s1.2 + 1))]) ⟨rfl, rfl, rfl, rfl, trivial⟩ (fun h => h)
        · refine jm_iconst F dX9_ownedBy_29 kc_0 ?_
          refine jm_ior F dX9_ownedBy_30 ?_
          refine jm_nameI (f := fun x6 => [.int x6]) (fun x6 => ?_) rfl
          refine jm_istore_n (i := 2) (lv' := [some (.ref (jm_a E 0 0)), some (.int p1), some (.int x6), some (.int s1.2)]) F dX9_ownedBy_31 rfl (by decide) rfl rfl ?_
          refine jm_iinc (i := 3) (lv' := [some (.ref (jm_a E 0 0)), some (.int p1), some (.int x6), some (.int (s1.2 + 1))]) F dX9_ownedBy_32 kc_1 rfl (by decide) rfl rfl ?_
          refine jm_goto F dX9_ownedBy_35 ?_
          exact jm_weakD F (lv' := [some (.ref (jm_a E 0 0)), some (.int p1), some (.int x6), some (.int (s1.2 + 1))]) ⟨rfl, rfl, rfl, rfl, trivial⟩ (fun h => h)
    · refine jm_iload_n (i := 2) F dX9_ownedBy_38 rfl rfl ?_
      exact jm_iret F dX9_ownedBy_39 (fun h => h)
  exact G r h hz
theorem dX9_isBetter_0 : jm_d cX9_isBetter 0 (.iload_n 2) 1 1 := ⟨by decide +kernel, rfl⟩
theorem dX9_isBetter_1 : jm_b cX9_isBetter 1 (.ifCond .ge) 4 6 := ⟨5, by decide +kernel, rfl, by decide⟩
theorem dX9_isBetter_6 : jm_d cX9_isBetter 6 (.aload_n 0) 1 7 := ⟨by decide +kernel, rfl⟩
theorem dX9_isBetter_7 : jm_d cX9_isBetter 7 (.iload_n 1) 1 8 := ⟨by decide +kernel, rfl⟩
theorem dX9_isBetter_8 : jm_d cX9_isBetter 8 (.invokevirtual 325) 3 11 := ⟨by decide +kernel, rfl⟩
theorem dX9_isBetter_11 : jm_d cX9_isBetter 11 (.aload_n 0) 1 12 := ⟨by decide +kernel, rfl⟩
theorem dX9_isBetter_12 : jm_d cX9_isBetter 12 (.iload_n 2) 1 13 := ⟨by decide +kernel, rfl⟩
theorem dX9_isBetter_13 : jm_d cX9_isBetter 13 (.invokevirtual 325) 3 16 := ⟨by decide +kernel, rfl⟩
theorem dX9_isBetter_16 : jm_b cX9_isBetter 16 (.if_icmp .eq) 19 38 := ⟨22, by decide +kernel, rfl, by decide⟩
theorem dX9_isBetter_38 : jm_d cX9_isBetter 38 (.iload_n 1) 1 39 := ⟨by decide +kernel, rfl⟩
theorem dX9_isBetter_39 : jm_d cX9_isBetter 39 (.invokestatic 109) 3 42 := ⟨by decide +kernel, rfl⟩
theorem dX9_isBetter_42 : jm_d cX9_isBetter 42 (.iload_n 2) 1 43 := ⟨by decide +kernel, rfl⟩
theorem dX9_isBetter_43 : jm_d cX9_isBetter 43 (.invokestatic 109) 3 46 := ⟨by decide +kernel, rfl⟩
theorem dX9_isBetter_46 : jm_b cX9_isBetter 46 (.if_icmp .ge) 49 53 := ⟨7, by decide +kernel, rfl, by decide⟩
theorem dX9_isBetter_53 : jm_d cX9_isBetter 53 (.iconst 0) 1 54 := ⟨by decide +kernel, rfl⟩
theorem dX9_isBetter_54 : jm_d cX9_isBetter 54 (.ireturn) 1 55 := ⟨by decide +kernel, rfl⟩
theorem dX9_isBetter_49 : jm_d cX9_isBetter 49 (.iconst 1) 1 50 := ⟨by decide +kernel, rfl⟩
theorem dX9_isBetter_50 : jm_b cX9_isBetter 50 .goto 53 54 := ⟨4, by decide +kernel, rfl, by decide⟩
theorem dX9_isBetter_19 : jm_d cX9_isBetter 19 (.aload_n 0) 1 20 := ⟨by decide +kernel, rfl⟩
theorem dX9_isBetter_20 : jm_d cX9_isBetter 20 (.iload_n 1) 1 21 := ⟨by decide +kernel, rfl⟩
theorem dX9_isBetter_21 : jm_d cX9_isBetter 21 (.invokevirtual 325) 3 24 := ⟨by decide +kernel, rfl⟩
theorem dX9_isBetter_24 : jm_d cX9_isBetter 24 (.aload_n 0) 1 25 := ⟨by decide +kernel, rfl⟩
theorem dX9_isBetter_25 : jm_d cX9_isBetter 25 (.iload_n 2) 1 26 := ⟨by decide +kernel, rfl⟩
theorem dX9_isBetter_26 : jm_d cX9_isBetter 26 (.invokevirtual 325) 3 29 := ⟨by decide +kernel, rfl⟩
theorem dX9_isBetter_29 : jm_b cX9_isBetter 29 (.if_icmp .ge) 32 36 := ⟨7, by decide +kernel, rfl, by decide⟩
theorem dX9_isBetter_36 : jm_d cX9_isBetter 36 (.iconst 0) 1 37 := ⟨by decide +kernel, rfl⟩
theorem dX9_isBetter_37 : jm_d cX9_isBetter 37 (.ireturn) 1 38 := ⟨by decide +kernel, rfl⟩
theorem dX9_isBetter_32 : jm_d cX9_isBetter 32 (.iconst 1) 1 33 := ⟨by decide +kernel, rfl⟩
theorem dX9_isBetter_33 : jm_b cX9_isBetter 33 .goto 36 37 := ⟨4, by decide +kernel, rfl, by decide⟩
theorem dX9_isBetter_4 : jm_d cX9_isBetter 4 (.iconst 1) 1 5 := ⟨by decide +kernel, rfl⟩
theorem dX9_isBetter_5 : jm_d cX9_isBetter 5 (.ireturn) 1 6 := ⟨by decide +kernel, rfl⟩
set_option maxHeartbeats 4000000 in
set_option maxRecDepth 100000 in
theorem kM_isBetter (E : jm_Ev) (hE : jm_dj E jm_LM) {M : jm_M} {p1 : Int32} {p2 : Int32}  {r : Int32} (h : sM_isBetter M p1 p2 = some r) : jm_Ct E jm_LM yX9_isBetter cX9_isBetter 3 (some .boolean) 2 45 [.ref (jm_a E 0 0), .int p1, .int p2] M (some (.int r)) M := by
  refine jm_enter (lv := [some (.ref (jm_a E 0 0)), some (.int p1), some (.int p2)]) hE (by decide) (Nat.le_of_ble_eq_true rfl) rfl ?_
  intro z w F hz
  have G : jm_G w 0 [some (.ref (jm_a E 0 0)), some (.int p1), some (.int p2)] [] M (sM_isBetter M p1 p2) (fun e => z (some (.int e)) M) := by
    unfold sM_isBetter
    refine jm_iload_n (i := 2) F dX9_isBetter_0 rfl rfl ?_
    refine jm_if_ge F dX9_isBetter_1 (fun c1 => ?_) (fun c1 => ?_)
    · refine jm_aload_n (i := 0) F dX9_isBetter_6 rfl rfl ?_
      refine jm_iload_n (i := 1) F dX9_isBetter_7 rfl rfl ?_
      refine jm_callV (As := [.int p1]) (st := []) (rv := fun r => some (.int r)) (mm := fun _ => M) F dX9_isBetter_8 qX9_325 rfl lo_X9 rfl (fun r h => kM_pricesOf E hE h) rfl (Nat.le_of_ble_eq_true rfl) ⟨Nat.le_of_ble_eq_true rfl, Nat.le_of_ble_eq_true rfl⟩ (fun r2 => ?_)
      refine jm_aload_n (i := 0) F dX9_isBetter_11 rfl rfl ?_
      refine jm_iload_n (i := 2) F dX9_isBetter_12 rfl rfl ?_
      refine jm_callV (As := [.int p2]) (st := [.int r2]) (rv := fun r => some (.int r)) (mm := fun _ => M) F dX9_isBetter_13 qX9_325 rfl lo_X9 rfl (fun r h => kM_pricesOf E hE h) rfl (Nat.le_of_ble_eq_true rfl) ⟨Nat.le_of_ble_eq_true rfl, Nat.le_of_ble_eq_true rfl⟩ (fun r3 => ?_)
      refine jm_icmp_eq F dX9_isBetter_16 (fun c4 => ?_) (fun c4 => ?_)
      · refine jm_iload_n (i := 1) F dX9_isBetter_38 rfl rfl ?_
        refine jm_callS (As := [.int p1]) (st := []) (rv := fun r => some (.int r)) (mm := fun _ => M) F dX9_isBetter_39 qX9_109 rfl (fun r h => kM_bits E hE h) rfl (Nat.le_of_ble_eq_true rfl) ⟨Nat.le_of_ble_eq_true rfl, Nat.le_of_ble_eq_true rfl⟩ (fun r5 => ?_)
        refine jm_iload_n (i := 2) F dX9_isBetter_42 rfl rfl ?_
        refine jm_callS (As := [.int p2]) (st := [.int r5]) (rv := fun r => some (.int r)) (mm := fun _ => M) F dX9_isBetter_43 qX9_109 rfl (fun r h => kM_bits E hE h) rfl (Nat.le_of_ble_eq_true rfl) ⟨Nat.le_of_ble_eq_true rfl, Nat.le_of_ble_eq_true rfl⟩ (fun r6 => ?_)
        refine jm_icmp_ge F dX9_isBetter_46 (fun c7 => ?_) (fun c7 => ?_)
        · refine jm_iconst F dX9_isBetter_53 kc_0 ?_
          exact jm_zret F dX9_isBetter_54 (Or.inl rfl) (fun h => h)
        · refine jm_iconst F dX9_isBetter_49 kc_1 ?_
          refine jm_goto F dX9_isBetter_50 ?_
          exact jm_zret F dX9_isBetter_54 (Or.inr rfl) (fun h => h)
      · refine jm_aload_n (i := 0) F dX9_isBetter_19 rfl rfl ?_
        refine jm_iload_n (i := 1) F dX9_isBetter_20 rfl rfl ?_
        refine jm_callV (As := [.int p1]) (st := []) (rv := fun r => some (.int r)) (mm := fun _ => M) F dX9_isBetter_21 qX9_325 rfl lo_X9 rfl (fun r h => kM_pricesOf E hE h) rfl (Nat.le_of_ble_eq_true rfl) ⟨Nat.le_of_ble_eq_true rfl, Nat.le_of_ble_eq_true rfl⟩ (fun r8 => ?_)
        refine jm_aload_n (i := 0) F dX9_isBetter_24 rfl rfl ?_
        refine jm_iload_n (i := 2) F dX9_isBetter_25 rfl rfl ?_
        refine jm_callV (As := [.int p2]) (st := [.int r8]) (rv := fun r => some (.int r)) (mm := fun _ => M) F dX9_isBetter_26 qX9_325 rfl lo_X9 rfl (fun r h => kM_pricesOf E hE h) rfl (Nat.le_of_ble_eq_true rfl) ⟨Nat.le_of_ble_eq_true rfl, Nat.le_of_ble_eq_true rfl⟩ (fun r9 => ?_)
        refine jm_icmp_ge F dX9_isBetter_29 (fun c10 => ?_) (fun c10 => ?_)
        · refine jm_iconst F dX9_isBetter_36 kc_0 ?_
          exact jm_zret F dX9_isBetter_37 (Or.inl rfl) (fun h => h)
        · refine jm_iconst F dX9_isBetter_32 kc_1 ?_
          refine jm_goto F dX9_isBetter_33 ?_
          exact jm_zret F dX9_isBetter_37 (Or.inr rfl) (fun h => h)
    · refine jm_iconst F dX9_isBetter_4 kc_1 ?_
      exact jm_zret F dX9_isBetter_5 (Or.inr rfl) (fun h => h)
  exact G r h hz
