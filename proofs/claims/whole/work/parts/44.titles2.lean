section
variable {C M : jm_M}
theorem st_title (h : Inv C M) (x y : Int32) : SC (sW_title C x y) (sM_title M x y) := by
  obtain ⟨hw, hr, hd⟩ := h.now
  have h10 := hw.1.b
  unfold sW_title sM_title
  rw [T_hasBook_x hw.1, M_isBook_x hw.1 hr]
  simp only [zb_bs]
  by_cases h2 : noB (C 1) x
  · rw [if_pos h2, zb_i00, zb_i00, zb_bs, if_neg (by decide), W_refuse C (k := 1) rfl (by omega), M_no M (k := 1) rfl (by omega)]
    simp only [zb_bs]
    exact SC.mk (Inv_ref h (by omega))
  · obtain ⟨b, hb, rfl⟩ := isB hw.1 h2
    obtain ⟨g5, g6, g7, g8, g9, gt⟩ := hr.2.2.1 b hb
    rw [if_neg h2, zb_i10, zb_i10]
    by_cases h3 : 0 ≤ y
    · rw [if_pos h3, if_pos h3, zb_bs, if_pos rfl, zb_rd (by omega) (by omega), zb_bs, I_lengthOf, zb_bs, zb_rd (by omega) (by omega), zb_bs, zb_bs, ts_len_ti gt]
      obtain ⟨e1, e2⟩ := zb_in_N gt.1 (by omega)
      by_cases q : M 0 10 b ≤ y
      · rw [if_pos q, if_neg (show ¬ y < M 0 10 b by rw [Int32.lt_iff_toInt_lt]; rw [Int32.le_iff_toInt_le] at q; omega)]
        exact SC.mk h
      · have q2 : y < M 0 10 b := by rw [Int32.lt_iff_toInt_lt]; rw [Int32.le_iff_toInt_le] at q; omega
        obtain ⟨k, hk, rfl⟩ := zb_lt8 (n := zb_N (M 0 10 b)) (by omega) (show ¬ y < 0 by rw [Int32.lt_iff_toInt_lt]; rw [Int32.le_iff_toInt_le] at h3; omega) (by rw [← e1]; exact q2)
        have d := dg_at hr hw.1 hb (show k < 4 by omega)
        rw [if_neg q] at d
        rw [if_neg q, if_pos q2]
        have d2 : jm_rd 40 (M 0 11) (4 * nI b + nI k) = some (nI (dg (M 0) b k) - 1) := by
          rw [← d]
          cases jm_rd 40 (M 0 11) (4 * nI b + nI k) <;> rfl
        rw [d2, gt.2.2.2, letterAt_at (by have := tl_lt (ti_d gt); omega) (by omega)]
        have td := tl_dig (ti_d gt)
        have e : tl_v (dg (M 0) b 0) (dg (M 0) b 1) (dg (M 0) b 2) (dg (M 0) b 3) / 27 ^ (3 - k) % 27 = dg (M 0) b k := by
          rcases (show k = 0 ∨ k = 1 ∨ k = 2 ∨ k = 3 by omega) with rfl | rfl | rfl | rfl
          · exact td.1
          · exact td.2.1
          · exact td.2.2.1
          · exact td.2.2.2
        rw [e]
        exact SC.mk h
    · rw [if_neg h3, if_neg h3, zb_bs, if_neg (by decide), W_refuse C (k := 4) rfl (by omega), M_no M (k := 4) rfl (by omega)]
      simp only [zb_bs]
      exact SC.mk (Inv_ref h (by omega))
theorem st_titles (h : Inv C M) (x y : Int32) : SC (sW_titles C x y) (sM_titles M x y) := by
  obtain ⟨hw, hr, hd⟩ := h.now
  have h10 := hw.1.b
  unfold sW_titles sM_titles
  rw [T_hasBook_x hw.1, M_isBook_x hw.1 hr, M_isIn01]
  simp only [zb_bs]
  by_cases h2 : noB (C 1) x
  · rw [if_pos h2, zb_i00, zb_i00, zb_bs, if_neg (by decide), W_refuse C (k := 1) rfl (by omega), M_no M (k := 1) rfl (by omega)]
    simp only [zb_bs]
    exact SC.mk (Inv_ref h (by omega))
  · obtain ⟨b, hb, rfl⟩ := isB hw.1 h2
    have hc := zc_le (fun k => tt (C 1) k < tt (C 1) b) (nb (C 1))
    rw [if_neg h2, zb_i10, zb_i10]
    by_cases h3 : y = 0
    · subst h3
      rw [if_pos rfl, if_pos (Or.inl rfl), zb_i10, zb_bs, if_pos rfl, if_pos rfl, T_rankOf hw hb, M_rankOf hw hr hb]
      exact SC.mk h
    · by_cases h4 : y = 1
      · subst h4
        rw [if_neg h3, if_pos rfl, if_pos (Or.inr rfl), zb_i10, zb_bs, if_pos rfl, if_neg h3, M_rankOf hw hr hb, zb_bs, zb_rd (by omega) (by omega), zb_bs, (hw.tx hb).1]
        have := (hw.tx hb).2
        simp only [nI_1]
        have r1 := ftG_P (C 1) (tt (C 1) b + 1) (nb (C 1))
        have r2 := T_firstTitleFrom hw (x := tt (C 1) b + 1) (by omega)
        have r3 := ft_ff hw r1
        rw [zc_next hw hb] at r3
        rw [r2, M_ofRank hw hr (by omega) r3]
        exact SC.mk h
      · rw [if_neg h3, if_neg h4, if_neg (show ¬ (y = 0 ∨ y = 1) from fun e => e.elim h3 h4), zb_i00, zb_bs, if_neg (by decide), W_refuse C (k := 2) rfl (by omega), M_no M (k := 2) rfl (by omega)]
        simp only [zb_bs]
        exact SC.mk (Inv_ref h (by omega))
end
