/-! call by call: over, pan, overThen, then, when -/
section
variable {C M : jm_M}
theorem st_over (h : Inv C M) (x y : Int32) : SC (sW_over C x y) (sM_over M x y) := by
  obtain ⟨hw, hr, hd⟩ := h.now
  unfold sW_over sM_over
  rw [W_areTwo hw.1, M_areTwo hw.1 hr]
  simp only [zb_bs]
  have h6 := hw.1.p.2
  by_cases h2 : ar2 (C 1) x y
  · obtain ⟨p, q, hp, hq, -, rfl, rfl⟩ := is2 hw.1 h2
    rw [if_pos h2, zb_i10, zb_i10, T_overOf hw.1 (by omega) (by omega), M_overNow hw (by omega) hr hp hq]
    simp only [zb_bs]
    exact SC.mk h
  · rw [if_neg h2, zb_i00, zb_i00, W_refuse C (k := 1) rfl (by omega), M_lower M (k := 1) rfl (by omega)]
    simp only [zb_bs]
    exact SC.mk (Inv_ref h (by omega))
theorem st_pan (h : Inv C M) (x y z : Int32) : SC (sW_pan C x y z) (sM_pan M x y z) := by
  obtain ⟨hw, hr, hd⟩ := h.now
  unfold sW_pan sM_pan
  rw [W_areTwo hw.1, M_areTwo hw.1 hr, T_hasBook_x hw.1, M_isBook_x hw.1 hr]
  simp only [zb_bs]
  have h6 := hw.1.p.2
  have h10 := hw.1.b.2
  by_cases h2 : ar2 (C 1) x y
  · obtain ⟨p, q, hp, hq, -, rfl, rfl⟩ := is2 hw.1 h2
    by_cases h3 : noB (C 1) z
    · rw [if_pos h2, zb_i10, zb_i10, if_pos h3, zb_i00, zb_i00, W_refuse C (k := 1) rfl (by omega), M_no M (k := 1) rfl (by omega)]
      simp only [zb_bs]
      exact SC.mk (Inv_ref h (by omega))
    · obtain ⟨b, hb, rfl⟩ := isB hw.1 h3
      rw [if_pos h2, zb_i10, zb_i10, if_neg h3, zb_i10, zb_i10, T_comesTo hw.1 (by omega), M_comesTo hw (by omega) hr hb]
      simp only [zb_bs]
      exact SC.mk h
  · rw [if_neg h2, zb_i00, zb_i00, W_refuse C (k := 1) rfl (by omega), M_no M (k := 1) rfl (by omega)]
    simp only [zb_bs]
    exact SC.mk (Inv_ref h (by omega))
theorem M_bound (x lo hi : Int32) : sM_bound x lo hi = some (if lo ≤ x then if x ≤ hi then 0 else -6 else -4) := by
  unfold sM_bound
  repeat' split
  all_goals rfl
theorem M_ahead {T : jm_T} {w n : Nat} (hw : wfT w T) (hwn : w + n < 900000) (hr : TR T (M 0)) (hd : M 0 0 17 = 0) : ∃ M1 M2 M3, sM_minds M = some M1 ∧ sM_goes M1 (nI n) = some M2 ∧ TR (wkN n T) (M2 0) ∧ sM_forgets M2 = some M3 ∧ sameM M M3 := by
  obtain ⟨M1, e1, m1⟩ := M_minds M
  have hr1 := TR_MD hr hw.1 m1
  obtain ⟨M2, e2, hr2, f2⟩ := M_goes hw (by omega) hr1 (n := n) (by rw [m1.d]; exact hd)
  obtain ⟨M3, e3, s3⟩ := M_forgets m1 f2.goes
  exact ⟨M1, M2, M3, e1, e2, hr2, e3, s3⟩
theorem st_overThen (h : Inv C M) (x y z : Int32) : SC (sW_overThen C x y z) (sM_overThen M x y z) := by
  obtain ⟨hw, hr, hd⟩ := h.now
  unfold sW_overThen sM_overThen
  rw [W_areTwo hw.1, M_areTwo hw.1 hr, M_bound]
  simp only [zb_bs]
  have h6 := hw.1.p.2
  by_cases h2 : ar2 (C 1) x y
  · obtain ⟨p, q, hp, hq, -, rfl, rfl⟩ := is2 hw.1 h2
    rw [if_pos h2, zb_i10, zb_i10]
    by_cases h3 : 0 ≤ z
    · by_cases h4 : z ≤ 60
      · obtain ⟨n, hn, rfl⟩ := zb_upto (n := 60) (by omega) h3 h4
        obtain ⟨M1, M2, M3, e1, e2, hr2, e3, s3⟩ := M_ahead hw (n := n) (by omega) hr hd
        have hwn := wf_wkN n hw
        rw [if_pos h3, if_pos h4, if_pos h3, if_pos h4, zb_bs, zb_i00, e1, zb_bs, e2, zb_bs, M_overNow hwn (by omega) hr2 (by rw [np_wkN]; exact hp) (by rw [np_wkN]; exact hq), zb_bs, e3, zb_bs,
          F_after (by omega) (h.zt (by omega) (by omega)) (h.zt (by omega) (by omega)) hw.1 (by omega), zb_bs, T_overOf (by rw [stT_s]; exact hwn.1) (by omega) (by omega), zb_bs, stT_s]
        exact SC.mk (Inv_same h (sameC_mind h (ZT_wkN (h.zt (by omega) (by omega)) n hw.1)) s3)
      · rw [if_pos h3, if_neg h4, if_pos h3, if_neg h4, zb_bs, if_neg (by decide), W_refuse C (k := 6) rfl (by omega), M_lower M (k := 6) rfl (by omega)]
        simp only [zb_bs]
        exact SC.mk (Inv_ref h (by omega))
    · rw [if_neg h3, if_neg h3, zb_bs, if_neg (by decide), W_refuse C (k := 4) rfl (by omega), M_lower M (k := 4) rfl (by omega)]
      simp only [zb_bs]
      exact SC.mk (Inv_ref h (by omega))
  · rw [if_neg h2, zb_i00, zb_i00, zb_bs, if_neg (by decide), W_refuse C (k := 1) rfl (by omega), M_lower M (k := 1) rfl (by omega)]
    simp only [zb_bs]
    exact SC.mk (Inv_ref h (by omega))
theorem st_when (h : Inv C M) (x y : Int32) : SC (sW_when C x y) (sM_when M x y) := by
  obtain ⟨hw, hr, hd⟩ := h.now
  unfold sW_when sM_when
  rw [W_areTwo hw.1, M_areTwo hw.1 hr]
  simp only [zb_bs]
  have h6 := hw.1.p.2
  by_cases h2 : ar2 (C 1) x y
  · obtain ⟨p, q, hp, hq, -, rfl, rfl⟩ := is2 hw.1 h2
    rw [if_pos h2, zb_i10, zb_i10]
    obtain ⟨r, hdn⟩ := zb_ff_ex (fun n => ¬ ts_over (wkN n (C 1)) p q < 0) 61
    obtain ⟨M1, e1, m1⟩ := M_minds M
    have hr1 := TR_MD hr hw.1 m1
    obtain ⟨M2, e2, f2⟩ := M_whenFrom hw (by omega) hr1 (by rw [m1.d]; exact hd) hp hq hdn
    obtain ⟨M3, e3, s3⟩ := M_forgets m1 f2.goes
    unfold sF_whenDown
    rw [F_think (by omega) (h.zt (by omega) (by omega)) (h.zt (by omega) (by omega)), zb_bs]
    obtain ⟨n, hn, e4⟩ := F_weeksTillDown (C := stT C 4 (C 1)) (p := p) (q := q) (m := 61) (x := 60) (by rw [stT_s]; exact hw.1) (by omega) (by omega) (by omega) rfl (r := r) (by rw [stT_s]; exact hdn)
    rw [e4, zb_bs, zb_bs, e1, zb_bs, e2, zb_bs, e3, zb_bs, stT_s, stT_2]
    exact SC.mk (Inv_same h (sameC_mind h (ZT_wkN (h.zt (by omega) (by omega)) n hw.1)) s3)
  · rw [if_neg h2, zb_i00, zb_i00, W_refuse C (k := 1) rfl (by omega), M_no M (k := 1) rfl (by omega)]
    simp only [zb_bs]
    exact SC.mk (Inv_ref h (by omega))
theorem st_then (h : Inv C M) (x y z : Int32) : SC (sW_then C x y z) (sM_then M x y z) := by
  obtain ⟨hw, hr, hd⟩ := h.now
  have h6 := hw.1.p.2
  have h10 := hw.1.b.2
  unfold sW_then sM_then
  rw [T_hasPerson_x hw.1, T_hasBook_x hw.1, M_isPerson_x hw.1 hr, M_isBook_x hw.1 hr, M_bound]
  have hi2 : sM_isIn y 0 2 = some (if y < 0 then 0 else if y ≤ 2 then 1 else 0) := by
    unfold sM_isIn
    by_cases a : y < 0
    · simp [a]
    · by_cases b : y ≤ 2
      · have : ¬ (2 : Int32) < y := by rw [Int32.lt_iff_toInt_lt]; rw [Int32.le_iff_toInt_le] at b; omega
        simp [a, b, this]
      · have : (2 : Int32) < y := by rw [Int32.lt_iff_toInt_lt]; rw [Int32.le_iff_toInt_le] at b; omega
        simp [a, b, this]
  rw [hi2]
  simp only [zb_bs]
  by_cases h3 : 0 ≤ x
  · by_cases h4 : x ≤ 60
    · obtain ⟨n, hn, rfl⟩ := zb_upto (n := 60) (by omega) h3 h4
      rw [if_pos h3, if_pos h4, if_pos h3, if_pos h4, if_pos rfl]
      by_cases h5 : y < 0
      · rw [if_pos h5, if_pos h5, zb_i00, zb_bs, if_neg (by decide), zb_bs, if_neg (by decide), W_refuse C (k := 2) rfl (by omega), M_no M (k := 2) rfl (by omega)]
        simp only [zb_bs]
        exact SC.mk (Inv_ref h (by omega))
      · by_cases h7 : y ≤ 2
        · obtain ⟨M1, M2, M3, e1, e2, hr2, e3, s3⟩ := M_ahead hw (n := n) (by omega) hr hd
          have hwn := wf_wkN n hw
          have hI := Inv_same h (sameC_mind h (ZT_wkN (h.zt (by omega) (by omega)) n hw.1)) s3
          have eF := F_after (C := C) (t := 1) (n := n) (by omega) (h.zt (by omega) (by omega)) (h.zt (by omega) (by omega)) hw.1 (by omega)
          rw [if_neg h5, if_pos h7, if_neg h5, if_pos h7, zb_i10, zb_bs, if_pos rfl]
          by_cases h8 : y = 0
          · rw [if_pos h8, if_pos h8]
            by_cases h9 : noP (C 1) z
            · rw [if_pos h9, zb_i00, zb_i00, zb_bs, if_neg (by decide), W_refuse C (k := 1) rfl (by omega), M_no M (k := 1) rfl (by omega)]
              simp only [zb_bs]
              exact SC.mk (Inv_ref h (by omega))
            · obtain ⟨p, hp, rfl⟩ := isP hw.1 h9
              rw [if_neg h9, zb_i10, zb_i10, zb_bs, if_pos rfl, eF, zb_bs, if_pos h8, e1, zb_bs, e2, zb_bs, if_pos h8, zb_rd (by omega) (by omega), zb_rd (by omega) (by omega), stT_s, (hr2.2.1 p (by rw [np_wkN]; exact hp)).1]
              simp only [zb_bs, e3]
              exact SC.mk hI
          · rw [if_neg h8, if_neg h8]
            by_cases h9 : noB (C 1) z
            · rw [if_pos h9, zb_i00, zb_i00, zb_bs, if_neg (by decide), W_refuse C (k := 1) rfl (by omega), M_no M (k := 1) rfl (by omega)]
              simp only [zb_bs]
              exact SC.mk (Inv_ref h (by omega))
            · obtain ⟨b, hb, rfl⟩ := isB hw.1 h9
              have hbn : b < nb (wkN n (C 1)) := by rw [nb_wkN]; exact hb
              obtain ⟨g5, g6, g7, g8, g9, -⟩ := hr2.2.2.1 b hbn
              obtain ⟨r, hr64, -, er⟩ := hwn.rd hbn
              rw [if_neg h9, zb_i10, zb_i10, zb_bs, if_pos rfl, eF, zb_bs, if_neg h8, e1, zb_bs, e2, zb_bs, if_neg h8, zb_rd (by omega) (by omega), zb_rd (by omega) (by omega), zb_rd (by omega) (by omega), zb_rd (by omega) (by omega), stT_s, g9, g8, er]
              simp only [zb_bs, J_bitCount, M_bits (show r < 1024 by omega)]
              by_cases h11 : y = 1
              · rw [if_pos h11, if_pos h11, zb_bs, e3, zb_bs]
                exact SC.mk hI
              · rw [if_neg h11, if_neg h11, zb_bs, e3, zb_bs]
                exact SC.mk hI
        · rw [if_neg h5, if_neg h7, if_neg h5, if_neg h7, zb_i00, zb_bs, if_neg (by decide), zb_bs, if_neg (by decide), W_refuse C (k := 2) rfl (by omega), M_no M (k := 2) rfl (by omega)]
          simp only [zb_bs]
          exact SC.mk (Inv_ref h (by omega))
    · rw [if_pos h3, if_neg h4, if_pos h3, if_neg h4, if_neg (by decide), zb_bs, if_neg (by decide), zb_bs, if_neg (by decide), W_refuse C (k := 6) rfl (by omega), M_no M (k := 6) rfl (by omega)]
      simp only [zb_bs]
      exact SC.mk (Inv_ref h (by omega))
  · rw [if_neg h3, if_neg h3, if_neg (by decide), zb_bs, if_neg (by decide), zb_bs, if_neg (by decide), W_refuse C (k := 4) rfl (by omega), M_no M (k := 4) rfl (by omega)]
    simp only [zb_bs]
    exact SC.mk (Inv_ref h (by omega))
end
