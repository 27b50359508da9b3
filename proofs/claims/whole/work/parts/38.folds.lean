/-! counts and sets over people and books, on both sides -/
noncomputable def ts_kindsOf (T : jm_T) (x : Int32) : Int32 := zf (fun k v => if T 9 k = x then v ||| ((1 : Int32) <<< (T 6 k &&& 31)) else v) (nb T) 0
theorem T_kindsHeldBy {C : jm_M} {t : Nat} (hc : ctT (C t)) (x : Int32) : sT_kindsHeldBy C t x = some (ts_kindsOf (C t) x) := by
  have h := hc.b
  unfold sT_kindsHeldBy ts_kindsOf
  refine zb_forB (fun k => (zf (fun k v => if (C t) 9 k = x then v ||| ((1 : Int32) <<< ((C t) 6 k &&& 31)) else v) k 0, nI k)) _ (nb (C t)) rfl ?_ ?_ (by omega) rfl
  · intro k hk
    unfold sT_kindsHeldBy_L4
    rw [h.1, if_neg (zb_nle hk (by omega))]
    simp only [zb_rd (show k < 10 by omega) (show 10 < 2000 by omega), zb_bs, nI_1, zf]
    all_goals first | rfl | ((repeat' split) <;> first | rfl | simp_all)
  · unfold sT_kindsHeldBy_L4
    rw [h.1, if_pos (zb_yle (Nat.le_refl _) (by omega))]
theorem M_kindsOn {T : jm_T} {M : jm_M} {w : Nat} (hw : wfT w T) (hw2 : w < 900000) (hr : TR T (M 0)) (x : Int32) : sM_kindsOn M x = some (ts_kindsOf T x) := by
  have h := hw.1.b
  unfold sM_kindsOn ts_kindsOf
  refine zb_forB (fun k => (zf (fun k v => if T 9 k = x then v ||| ((1 : Int32) <<< (T 6 k &&& 31)) else v) k 0, nI k)) _ (nb T) rfl ?_ ?_ (by omega) rfl
  · intro k hk
    obtain ⟨g5, g6, g7, g8, g9, -⟩ := hr.2.2.1 k hk
    unfold sM_kindsOn_L4
    rw [hr.1.2.1, h.1, if_neg (zb_nle hk (by omega))]
    simp only [zb_rd (show k < 10 by omega) (show 10 < 2000 by omega), g5, g6, g7, g8, g9, zb_bs, nI_1, Int32.add_zero, Int32.or_zero, zf]
    all_goals first | rfl | ((repeat' split) <;> first | rfl | simp_all)
  · unfold sM_kindsOn_L4
    rw [hr.1.2.1, h.1, if_pos (zb_yle (Nat.le_refl _) (by omega))]
noncomputable def ts_prices (T : jm_T) (x : Int32) : Int32 := zf (fun k v => if T 9 k = x then v + ts_price T k else v) (nb T) 0
theorem T_pricesHeldBy {C : jm_M} {t : Nat} (hc : ctT (C t)) (x : Int32) : sT_pricesHeldBy C t x = some (ts_prices (C t) x) := by
  have h := hc.b
  unfold sT_pricesHeldBy ts_prices
  refine zb_forB (fun k => (zf (fun k v => if (C t) 9 k = x then v + ts_price (C t) k else v) k 0, nI k)) _ (nb (C t)) rfl ?_ ?_ (by omega) rfl
  · intro k hk
    unfold sT_pricesHeldBy_L4
    rw [h.1, if_neg (zb_nle hk (by omega))]
    simp only [zb_rd (show k < 10 by omega) (show 10 < 2000 by omega), T_priceOf (show k < 10 by omega), zb_bs, nI_1, zf]
    all_goals first | rfl | ((repeat' split) <;> first | rfl | simp_all)
  · unfold sT_pricesHeldBy_L4
    rw [h.1, if_pos (zb_yle (Nat.le_refl _) (by omega))]
theorem M_pricesOn {T : jm_T} {M : jm_M} {w : Nat} (hw : wfT w T) (hw2 : w < 900000) (hr : TR T (M 0)) (x : Int32) : sM_pricesOn M x = some (ts_prices T x) := by
  have h := hw.1.b
  unfold sM_pricesOn ts_prices
  refine zb_forB (fun k => (zf (fun k v => if T 9 k = x then v + ts_price T k else v) k 0, nI k)) _ (nb T) rfl ?_ ?_ (by omega) rfl
  · intro k hk
    obtain ⟨g5, g6, g7, g8, g9, -⟩ := hr.2.2.1 k hk
    unfold sM_pricesOn_L4
    rw [hr.1.2.1, h.1, if_neg (zb_nle hk (by omega))]
    simp only [zb_rd (show k < 10 by omega) (show 10 < 2000 by omega), g5, g6, g7, g8, g9, M_price hw hr hk, zb_bs, nI_1, Int32.add_zero, Int32.or_zero, zf]
    all_goals first | rfl | ((repeat' split) <;> first | rfl | simp_all)
  · unfold sM_pricesOn_L4
    rw [hr.1.2.1, h.1, if_pos (zb_yle (Nat.le_refl _) (by omega))]
noncomputable def ts_unread (T : jm_T) : Int32 := zf (fun k v => if T 10 k = 0 then v ||| ((1 : Int32) <<< (nI k &&& 31)) else v) (nb T) 0
theorem T_unreadBooks {C : jm_M} {t : Nat} (hc : ctT (C t))  : sT_unreadBooks C t = some (ts_unread (C t)) := by
  have h := hc.b
  unfold sT_unreadBooks ts_unread
  refine zb_forB (fun k => (zf (fun k v => if (C t) 10 k = 0 then v ||| ((1 : Int32) <<< (nI k &&& 31)) else v) k 0, nI k)) _ (nb (C t)) rfl ?_ ?_ (by omega) rfl
  · intro k hk
    unfold sT_unreadBooks_L4
    rw [h.1, if_neg (zb_nle hk (by omega))]
    simp only [zb_rd (show k < 10 by omega) (show 10 < 2000 by omega), zb_bs, nI_1, zf]
    all_goals first | rfl | ((repeat' split) <;> first | rfl | simp_all)
  · unfold sT_unreadBooks_L4
    rw [h.1, if_pos (zb_yle (Nat.le_refl _) (by omega))]
theorem M_unread {T : jm_T} {M : jm_M} {w : Nat} (hw : wfT w T) (hw2 : w < 900000) (hr : TR T (M 0))  : sM_unread M = some (ts_unread T) := by
  have h := hw.1.b
  unfold sM_unread ts_unread
  refine zb_forB (fun k => (zf (fun k v => if T 10 k = 0 then v ||| ((1 : Int32) <<< (nI k &&& 31)) else v) k 0, nI k)) _ (nb T) rfl ?_ ?_ (by omega) rfl
  · intro k hk
    obtain ⟨g5, g6, g7, g8, g9, -⟩ := hr.2.2.1 k hk
    unfold sM_unread_L4
    rw [hr.1.2.1, h.1, if_neg (zb_nle hk (by omega))]
    simp only [zb_rd (show k < 10 by omega) (show 10 < 2000 by omega), g5, g6, g7, g8, g9, zb_bs, nI_1, Int32.add_zero, Int32.or_zero, zf]
    all_goals first | rfl | ((repeat' split) <;> first | rfl | simp_all)
  · unfold sM_unread_L4
    rw [hr.1.2.1, h.1, if_pos (zb_yle (Nat.le_refl _) (by omega))]
noncomputable def ts_lent (T : jm_T) : Int32 := zf (fun k v => if T 9 k = T 8 k then v else v ||| ((1 : Int32) <<< (nI k &&& 31))) (nb T) 0
theorem T_lentBooks {C : jm_M} {t : Nat} (hc : ctT (C t))  : sT_lentBooks C t = some (ts_lent (C t)) := by
  have h := hc.b
  unfold sT_lentBooks ts_lent
  refine zb_forB (fun k => (zf (fun k v => if (C t) 9 k = (C t) 8 k then v else v ||| ((1 : Int32) <<< (nI k &&& 31))) k 0, nI k)) _ (nb (C t)) rfl ?_ ?_ (by omega) rfl
  · intro k hk
    unfold sT_lentBooks_L4
    rw [h.1, if_neg (zb_nle hk (by omega))]
    simp only [zb_rd (show k < 10 by omega) (show 10 < 2000 by omega), zb_bs, nI_1, zf]
    all_goals first | rfl | ((repeat' split) <;> first | rfl | simp_all)
  · unfold sT_lentBooks_L4
    rw [h.1, if_pos (zb_yle (Nat.le_refl _) (by omega))]
theorem M_lent {T : jm_T} {M : jm_M} {w : Nat} (hw : wfT w T) (hw2 : w < 900000) (hr : TR T (M 0))  : sM_lent M = some (ts_lent T) := by
  have h := hw.1.b
  unfold sM_lent ts_lent
  refine zb_forB (fun k => (zf (fun k v => if T 9 k = T 8 k then v else v ||| ((1 : Int32) <<< (nI k &&& 31))) k 0, nI k)) _ (nb T) rfl ?_ ?_ (by omega) rfl
  · intro k hk
    obtain ⟨g5, g6, g7, g8, g9, -⟩ := hr.2.2.1 k hk
    unfold sM_lent_L4
    rw [hr.1.2.1, h.1, if_neg (zb_nle hk (by omega))]
    simp only [zb_rd (show k < 10 by omega) (show 10 < 2000 by omega), g5, g6, g7, g8, g9, zb_bs, nI_1, Int32.add_zero, Int32.or_zero, zf]
    all_goals first | rfl | ((repeat' split) <;> first | rfl | simp_all)
  · unfold sM_lent_L4
    rw [hr.1.2.1, h.1, if_pos (zb_yle (Nat.le_refl _) (by omega))]
noncomputable def ts_weights (T : jm_T) : Int32 := zf (fun k v => v + T 2 k) (np T) 0
theorem T_weightOfAll {C : jm_M} {t : Nat} (hc : ctT (C t))  : sT_weightOfAll C t = some (ts_weights (C t)) := by
  have h := hc.p
  unfold sT_weightOfAll ts_weights
  refine zb_forB (fun k => (zf (fun k v => v + (C t) 2 k) k 0, nI k)) _ (np (C t)) rfl ?_ ?_ (by omega) rfl
  · intro k hk
    unfold sT_weightOfAll_L4
    rw [h.1, if_neg (zb_nle hk (by omega))]
    simp only [zb_rd (show k < 6 by omega) (show 6 < 2000 by omega), zb_bs, nI_1, zf]
    all_goals first | rfl | ((repeat' split) <;> first | rfl | simp_all)
  · unfold sT_weightOfAll_L4
    rw [h.1, if_pos (zb_yle (Nat.le_refl _) (by omega))]
theorem M_allWeights {T : jm_T} {M : jm_M} {w : Nat} (hw : wfT w T) (hw2 : w < 900000) (hr : TR T (M 0))  : sM_allWeights M = some (ts_weights T) := by
  have h := hw.1.p
  unfold sM_allWeights ts_weights
  refine zb_forB (fun k => (zf (fun k v => v + T 2 k) k 0, nI k)) _ (np T) rfl ?_ ?_ (by omega) rfl
  · intro k hk
    obtain ⟨g2, g3, g4⟩ := hr.2.1 k hk
    unfold sM_allWeights_L4
    rw [hr.1.1, h.1, if_neg (zb_nle hk (by omega))]
    simp only [zb_rd (show k < 6 by omega) (show 6 < 2000 by omega), g2, g3, g4, zb_bs, nI_1, Int32.add_zero, Int32.or_zero, zf]
    all_goals first | rfl | ((repeat' split) <;> first | rfl | simp_all)
  · unfold sM_allWeights_L4
    rw [hr.1.1, h.1, if_pos (zb_yle (Nat.le_refl _) (by omega))]
noncomputable def ts_allRead (T : jm_T) : Int32 := zf (fun k v => v + ts_bc (T 10 k)) (nb T) 0
theorem T_readings {C : jm_M} {t : Nat} (hc : ctT (C t))  : sT_readings C t = some (ts_allRead (C t)) := by
  have h := hc.b
  unfold sT_readings ts_allRead
  refine zb_forB (fun k => (zf (fun k v => v + ts_bc ((C t) 10 k)) k 0, nI k)) _ (nb (C t)) rfl ?_ ?_ (by omega) rfl
  · intro k hk
    unfold sT_readings_L4
    rw [h.1, if_neg (zb_nle hk (by omega))]
    simp only [zb_rd (show k < 10 by omega) (show 10 < 2000 by omega), J_bitCount, zb_bs, nI_1, zf]
    all_goals first | rfl | ((repeat' split) <;> first | rfl | simp_all)
  · unfold sT_readings_L4
    rw [h.1, if_pos (zb_yle (Nat.le_refl _) (by omega))]
theorem M_allRead {T : jm_T} {M : jm_M} {w : Nat} (hw : wfT w T) (hw2 : w < 900000) (hr : TR T (M 0))  : sM_allRead M = some (ts_allRead T) := by
  have h := hw.1.b
  unfold sM_allRead ts_allRead
  refine zb_forB (fun k => (zf (fun k v => v + ts_bc (T 10 k)) k 0, nI k)) _ (nb T) rfl ?_ ?_ (by omega) rfl
  · intro k hk
    obtain ⟨g5, g6, g7, g8, g9, -⟩ := hr.2.2.1 k hk
    obtain ⟨r, hr1, -, e⟩ := hw.rd hk
    unfold sM_allRead_L4
    rw [hr.1.2.1, h.1, if_neg (zb_nle hk (by omega))]
    simp only [zb_rd (show k < 10 by omega) (show 10 < 2000 by omega), g5, g6, g7, g8, g9, e, M_bits (show r < 1024 by omega), zb_bs, nI_1, Int32.add_zero, Int32.or_zero, zf]
    all_goals first | rfl | ((repeat' split) <;> first | rfl | simp_all)
  · unfold sM_allRead_L4
    rw [hr.1.2.1, h.1, if_pos (zb_yle (Nat.le_refl _) (by omega))]
noncomputable def ts_readBy (T : jm_T) (p : Nat) : Int32 := zf (fun k v => v ||| (ts_rd T p k <<< (nI k &&& 31))) (nb T) 0
theorem T_booksReadBy {C : jm_M} {t : Nat} (hc : ctT (C t)) (p : Nat) : sT_booksReadBy C t (nI p) = some (ts_readBy (C t) p) := by
  have h := hc.b
  unfold sT_booksReadBy ts_readBy
  refine zb_forB (fun k => (zf (fun k v => v ||| (ts_rd (C t) p k <<< (nI k &&& 31))) k 0, nI k)) _ (nb (C t)) rfl ?_ ?_ (by omega) rfl
  · intro k hk
    unfold sT_booksReadBy_L4
    rw [h.1, if_neg (zb_nle hk (by omega))]
    simp only [zb_rd (show k < 10 by omega) (show 10 < 2000 by omega), T_hasRead (show k < 10 by omega), zb_bs, nI_1, zf]
    all_goals first | rfl | ((repeat' split) <;> first | rfl | simp_all)
  · unfold sT_booksReadBy_L4
    rw [h.1, if_pos (zb_yle (Nat.le_refl _) (by omega))]
noncomputable def ts_many (T : jm_T) (p : Nat) : Int32 := zf (fun k v => v + ts_rd T p k) (nb T) 0
theorem M_manyRead {T : jm_T} {M : jm_M} {w : Nat} (hw : wfT w T) (hw2 : w < 900000) (hr : TR T (M 0)) (p : Nat) : sM_manyRead M (nI p) = some (ts_many T p) := by
  have h := hw.1.b
  unfold sM_manyRead ts_many
  refine zb_forB (fun k => (zf (fun k v => v + ts_rd T p k) k 0, nI k)) _ (nb T) rfl ?_ ?_ (by omega) rfl
  · intro k hk
    obtain ⟨g5, g6, g7, g8, g9, -⟩ := hr.2.2.1 k hk
    unfold sM_manyRead_L4
    rw [hr.1.2.1, h.1, if_neg (zb_nle hk (by omega))]
    simp only [zb_rd (show k < 10 by omega) (show 10 < 2000 by omega), g5, g6, g7, g8, g9, zb_bs, nI_1, Int32.add_zero, Int32.or_zero, zf]
    all_goals rfl
  · unfold sM_manyRead_L4
    rw [hr.1.2.1, h.1, if_pos (zb_yle (Nat.le_refl _) (by omega))]
noncomputable def ts_manyOn (T : jm_T) (x y : Int32) : Int32 := zf (fun k v => if T 9 k = x ∧ T 6 k = y then v + 1 else v) (nb T) 0
theorem M_manyOn {T : jm_T} {M : jm_M} {w : Nat} (hw : wfT w T) (hw2 : w < 900000) (hr : TR T (M 0)) (x y : Int32) : sM_manyOn M x y = some (ts_manyOn T x y) := by
  have h := hw.1.b
  unfold sM_manyOn ts_manyOn
  refine zb_forB (fun k => (zf (fun k v => if T 9 k = x ∧ T 6 k = y then v + 1 else v) k 0, nI k)) _ (nb T) rfl ?_ ?_ (by omega) rfl
  · intro k hk
    obtain ⟨g5, g6, g7, g8, g9, -⟩ := hr.2.2.1 k hk
    unfold sM_manyOn_L5
    rw [hr.1.2.1, h.1, if_neg (zb_nle hk (by omega))]
    simp only [zb_rd (show k < 10 by omega) (show 10 < 2000 by omega), g5, g6, g7, g8, g9, zb_bs, nI_1, Int32.add_zero, Int32.or_zero, zf]
    by_cases q1 : T 9 k = x
    · by_cases q2 : T 6 k = y <;> simp [q1, q2]
    · simp [q1]
  · unfold sM_manyOn_L5
    rw [hr.1.2.1, h.1, if_pos (zb_yle (Nat.le_refl _) (by omega))]
