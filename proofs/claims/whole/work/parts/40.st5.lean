/-! questions about people and books -/
theorem zb_bitn : ∀ n, n < 10 → ∀ s, s < 2 ^ n → nI s ||| ((1 : Int32) <<< (nI n &&& 31)) = nI (s + 2 ^ n) ∧ ts_bc (nI (s + 2 ^ n)) = ts_bc (nI s) + 1 ∧ nI s &&& ((1 : Int32) <<< (nI n &&& 31)) = 0 := by decide +kernel
theorem zb_bit0 : ∀ n, n < 10 → (0 : Int32) <<< (nI n &&& 31) = 0 := by decide +kernel
/-- a set built up place by place -/
theorem zb_set {F : Nat → Int32} (n : Nat) (hn : n ≤ 10) (hF : ∀ k, k < n → F k = 0 ∨ F k = 1) : ∃ s, s < 2 ^ n ∧ zf (fun k v => v ||| (F k <<< (nI k &&& 31))) n 0 = nI s ∧ ts_bc (nI s) = zf (fun k v => v + F k) n 0 := by
  induction n with
  | zero => exact ⟨0, by decide, rfl, show ts_bc (nI 0) = 0 by decide⟩
  | succ n ih =>
    obtain ⟨s, h1, h2, h3⟩ := ih (by omega) (fun k hk => hF k (by omega))
    have h4 : (2 : Nat) ^ (n + 1) = 2 ^ n + 2 ^ n := by rw [Nat.pow_succ]; omega
    rcases hF n (by omega) with q | q
    · refine ⟨s, by omega, ?_, ?_⟩
      · rw [zf, h2, q, zb_bit0 n (by omega), Int32.or_zero]
      · rw [zf, ← h3, q, Int32.add_zero]
    · obtain ⟨g1, g2, g3⟩ := zb_bitn n (by omega) s h1
      refine ⟨s + 2 ^ n, by omega, ?_, ?_⟩
      · rw [zf, h2, q, g1]
      · rw [zf, ← h3, q, g2]
theorem ts_readBy_s {w : Nat} {T : jm_T} (hw : wfT w T) {p : Nat} (hp : p < np T) : ∃ s, s < 1024 ∧ ts_readBy T p = nI s ∧ ts_bc (nI s) = ts_many T p := by
  have h := hw.1.b.2
  obtain ⟨s, h1, h2, h3⟩ := zb_set (F := ts_rd T p) (nb T) h (fun k hk => ts_rd01 hw hp hk)
  exact ⟨s, by have : (2:Nat) ^ nb T ≤ 2 ^ 10 := Nat.pow_le_pow_right (by omega) h; omega, h2, h3⟩
theorem T_readingsOf {C : jm_M} {t w : Nat} (hw : wfT w (C t)) {p : Nat} (hp : p < np (C t)) : sT_readingsOf C t (nI p) = some (ts_many (C t) p) := by
  unfold sT_readingsOf
  obtain ⟨s, h1, h2, h3⟩ := ts_readBy_s hw hp
  rw [T_booksReadBy hw.1, zb_bs, J_bitCount, zb_bs, h2, h3]
section
variable {C M : jm_M}
theorem st_person (h : Inv C M) (x y : Int32) : SC (sW_person C x y) (sM_person M x y) := by
  obtain ⟨hw, hr, hd⟩ := h.now
  have h6 := hw.1.p.2
  unfold sW_person sM_person
  rw [T_hasPerson_x hw.1, M_isPerson_x hw.1 hr]
  simp only [zb_bs]
  by_cases h2 : noP (C 1) x
  · rw [if_pos h2, zb_i00, zb_i00, W_refuse C (k := 1) rfl (by omega), M_no M (k := 1) rfl (by omega)]
    simp only [zb_bs]
    exact SC.mk (Inv_ref h (by omega))
  · obtain ⟨p, hp, rfl⟩ := isP hw.1 h2
    obtain ⟨g2, g3, g4⟩ := hr.2.1 p hp
    rw [if_neg h2, zb_i10, zb_i10]
    by_cases y0 : y = 0
    · rw [if_pos y0, if_pos y0, zb_rd (by omega) (by omega), zb_rd (by omega) (by omega), g2]
      exact SC.mk h
    rw [if_neg y0, if_neg y0]
    by_cases y1 : y = 1
    · rw [if_pos y1, if_pos y1, zb_rd (by omega) (by omega), zb_rd (by omega) (by omega), g3]
      exact SC.mk h
    rw [if_neg y1, if_neg y1]
    by_cases y2 : y = 2
    · rw [if_pos y2, if_pos y2, zb_rd (by omega) (by omega), zb_rd (by omega) (by omega), g4]
      exact SC.mk h
    rw [if_neg y2, if_neg y2]
    by_cases y3 : y = 3
    · rw [if_pos y3, if_pos y3, T_readingsOf hw hp, M_manyRead hw (by omega) hr]
      exact SC.mk h
    rw [if_neg y3, if_neg y3]
    by_cases y4 : y = 4
    · rw [if_pos y4, if_pos y4, T_booksWith hw.1 (by omega), M_manyIn hw.1 hr (jT := 9) (by omega)]
      exact SC.mk h
    rw [if_neg y4, if_neg y4]
    by_cases y5 : y = 5
    · rw [if_pos y5, if_pos y5, T_booksWith hw.1 (by omega), M_manyIn hw.1 hr (jT := 8) (by omega)]
      exact SC.mk h
    rw [if_neg y5, if_neg y5, W_refuse C (k := 2) rfl (by omega), M_no M (k := 2) rfl (by omega)]
    simp only [zb_bs]
    exact SC.mk (Inv_ref h (by omega))
theorem st_book (h : Inv C M) (x y : Int32) : SC (sW_book C x y) (sM_book M x y) := by
  obtain ⟨hw, hr, hd⟩ := h.now
  have h6 := hw.1.b.2
  unfold sW_book sM_book
  rw [T_hasBook_x hw.1, M_isBook_x hw.1 hr]
  simp only [zb_bs]
  by_cases h2 : noB (C 1) x
  · rw [if_pos h2, zb_i00, zb_i00, W_refuse C (k := 1) rfl (by omega), M_no M (k := 1) rfl (by omega)]
    simp only [zb_bs]
    exact SC.mk (Inv_ref h (by omega))
  · obtain ⟨p, hp, rfl⟩ := isB hw.1 h2
    obtain ⟨g5, g6, g7, g8, g9, gt⟩ := hr.2.2.1 p hp
    rw [if_neg h2, zb_i10, zb_i10]
    by_cases y0 : y = 0
    · rw [if_pos y0, if_pos y0, zb_rd (by omega) (by omega), zb_rd (by omega) (by omega), g5]
      exact SC.mk h
    rw [if_neg y0, if_neg y0]
    by_cases y1 : y = 1
    · rw [if_pos y1, if_pos y1, zb_rd (by omega) (by omega), zb_rd (by omega) (by omega), g6]
      exact SC.mk h
    rw [if_neg y1, if_neg y1]
    by_cases y2 : y = 2
    · rw [if_pos y2, if_pos y2, zb_rd (by omega) (by omega), zb_rd (by omega) (by omega), g7]
      exact SC.mk h
    rw [if_neg y2, if_neg y2]
    by_cases y3 : y = 3
    · rw [if_pos y3, if_pos y3, zb_rd (by omega) (by omega), zb_rd (by omega) (by omega), g8]
      exact SC.mk h
    rw [if_neg y3, if_neg y3]
    by_cases y4 : y = 4
    · rw [if_pos y4, if_pos y4, zb_rd (by omega) (by omega), zb_rd (by omega) (by omega), g9]
      exact SC.mk h
    rw [if_neg y4, if_neg y4]
    by_cases y5 : y = 5
    · rw [if_pos y5, if_pos y5, T_weighs (by omega), M_weighs hw hr hp]
      exact SC.mk h
    rw [if_neg y5, if_neg y5]
    by_cases y6 : y = 6
    · rw [if_pos y6, if_pos y6, T_priceOf (by omega), M_price hw hr hp]
      exact SC.mk h
    rw [if_neg y6, if_neg y6]
    by_cases y7 : y = 7
    · rw [if_pos y7, if_pos y7, zb_rd (by omega) (by omega), zb_rd (by omega) (by omega), ← ts_len_ti gt]
      simp only [zb_bs, I_lengthOf]
      exact SC.mk h
    rw [if_neg y7, if_neg y7, W_refuse C (k := 2) rfl (by omega), M_no M (k := 2) rfl (by omega)]
    simp only [zb_bs]
    exact SC.mk (Inv_ref h (by omega))
theorem st_kinds (h : Inv C M) (x : Int32) : SC (sW_kinds C x) (sM_kinds M x) := by
  obtain ⟨hw, hr, hd⟩ := h.now
  unfold sW_kinds sM_kinds
  rw [M_isIn07]
  simp only [zb_bs]
  by_cases h1 : x < 0
  · rw [if_pos h1, if_pos h1, zb_i00, W_refuse C (k := 2) rfl (by omega), M_no M (k := 2) rfl (by omega)]
    simp only [zb_bs]
    exact SC.mk (Inv_ref h (by omega))
  rw [if_neg h1, if_neg h1]
  by_cases h2 : x < 8
  · rw [if_pos h2, if_pos h2, zb_i10, T_booksWith hw.1 (by omega), M_manyIn hw.1 hr (jT := 6) (by omega)]
    exact SC.mk h
  · rw [if_neg h2, if_neg h2, zb_i00, W_refuse C (k := 2) rfl (by omega), M_no M (k := 2) rfl (by omega)]
    simp only [zb_bs]
    exact SC.mk (Inv_ref h (by omega))
theorem st_count (h : Inv C M) (x : Int32) : ∃ v, sW_count C x = some v ∧ sM_count M x = some v := by
  obtain ⟨hw, hr, hd⟩ := h.now
  obtain ⟨-, im, ⟨m, L, f, p1, p2, p3, p4, p5, p6, p7, p8⟩, ⟨l, l1, l2, l3, l4⟩, ⟨r, r1, r2, r3, r4⟩, rf, zt, z17⟩ := h
  unfold sW_count sM_count
  by_cases a : x < 11
  · rw [show sM_isIn x 11 16 = some 0 by unfold sM_isIn; rw [if_pos a], zb_bs, zb_i00]
    by_cases y0 : x = 0
    · rw [if_pos y0, if_pos y0, hr.1.1]; exact ⟨_, rfl, rfl⟩
    rw [if_neg y0, if_neg y0]
    by_cases y0 : x = 1
    · rw [if_pos y0, if_pos y0, hr.1.2.1]; exact ⟨_, rfl, rfl⟩
    rw [if_neg y0, if_neg y0]
    by_cases y0 : x = 2
    · rw [if_pos y0, if_pos y0, hr.1.2.2.1]; exact ⟨_, rfl, rfl⟩
    rw [if_neg y0, if_neg y0]
    by_cases y0 : x = 3
    · rw [if_pos y0, if_pos y0, hr.1.2.2.2]; exact ⟨_, rfl, rfl⟩
    rw [if_neg y0, if_neg y0]
    by_cases y0 : x = 4
    · rw [if_pos y0, if_pos y0, T_weightOfAll hw.1, M_allWeights hw (by omega) hr]; exact ⟨_, rfl, rfl⟩
    rw [if_neg y0, if_neg y0]
    by_cases y0 : x = 5
    · rw [if_pos y0, if_pos y0, l2, l3]; exact ⟨_, rfl, rfl⟩
    rw [if_neg y0, if_neg y0]
    by_cases y0 : x = 6
    · rw [if_pos y0, if_pos y0, r2, r3]; exact ⟨_, rfl, rfl⟩
    rw [if_neg y0, if_neg y0]
    by_cases y0 : x = 7
    · rw [if_pos y0, if_pos y0, p4, p6]; exact ⟨_, rfl, rfl⟩
    rw [if_neg y0, if_neg y0]
    by_cases y0 : x = 8
    · rw [if_pos y0, if_pos y0, T_twosDown hw.1, M_manyDown hw (by omega) hr]; exact ⟨_, rfl, rfl⟩
    rw [if_neg y0, if_neg y0, if_pos a]
    exact ⟨_, rfl, rfl⟩
  · have e : ∀ k : Int32, k.toInt < 11 → ¬ x = k := by
      intro k hk q
      subst q
      rw [Int32.lt_iff_toInt_lt] at a
      exact a hk
    rw [if_neg (e 0 (by decide)), if_neg (e 1 (by decide)), if_neg (e 2 (by decide)), if_neg (e 3 (by decide)), if_neg (e 4 (by decide)), if_neg (e 5 (by decide)), if_neg (e 6 (by decide)), if_neg (e 7 (by decide)), if_neg (e 8 (by decide)), if_neg a]
    by_cases b : 16 < x
    · rw [if_pos b, show sM_isIn x 11 16 = some 0 by (unfold sM_isIn; rw [if_neg a, if_pos b]), zb_bs, zb_i00, if_neg (e 0 (by decide)), if_neg (e 1 (by decide)), if_neg (e 2 (by decide)), if_neg (e 3 (by decide)), if_neg (e 4 (by decide)), if_neg (e 5 (by decide)), if_neg (e 6 (by decide)), if_neg (e 7 (by decide)), if_neg (e 8 (by decide))]
      exact ⟨_, rfl, rfl⟩
    · rw [if_neg b, show sM_isIn x 11 16 = some 1 by (unfold sM_isIn; rw [if_neg a, if_neg b]), zb_bs, zb_i10]
      obtain ⟨k, hk, rfl⟩ : ∃ k, k < 17 ∧ x = nI k := by
        have e16 : (16 : Int32).toInt = 16 := rfl
        have e11 : (11 : Int32).toInt = 11 := rfl
        rw [Int32.lt_iff_toInt_lt] at a b
        exact zb_lt8 (n := 17) (by omega) (by rw [Int32.lt_iff_toInt_lt]; have : (0 : Int32).toInt = 0 := rfl; omega) (by rw [Int32.lt_iff_toInt_lt, nI_toInt (by omega)]; omega)
      have hk2 : 11 ≤ k := by
        rcases Nat.lt_or_ge k 11 with q | q
        · exact absurd (show nI k < nI 11 by rw [zb_lt (by omega) (by omega)]; exact q) a
        · exact q
      have e2 : nI k - 10 = nI (k - 10) := by
        obtain ⟨j, rfl⟩ : ∃ j, k = j + 10 := ⟨k - 10, by omega⟩
        rw [← nI_add, show nI 10 = 10 from rfl, Int32.add_sub_cancel, show j + 10 - 10 = j by omega]
      rw [e2, zb_rd (by omega) (by omega), zb_rd (by omega) (by omega), rf (k - 10) (by omega)]
      exact ⟨_, rfl, rfl⟩
end
