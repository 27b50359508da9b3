/-! call by call: what changes and can be taken back -/
theorem mF.one {M : jm_M} {j i : Nat} {v : Int32} (h : 2 ≤ j ∧ j ≤ 13) : mF [2, 3, 4, 5, 6, 7, 8, 9, 10, 11, 12, 13] [13, 14, 15, 16] M (jm_up M 0 j i v) := mF.up (Or.inl (jmem h.1 h.2))
theorem mF.fld {M : jm_M} {i : Nat} {v : Int32} (h : i ∈ [13, 14, 15, 16]) : mF [2, 3, 4, 5, 6, 7, 8, 9, 10, 11, 12, 13] [13, 14, 15, 16] M (jm_up M 0 0 i v) := mF.up (Or.inr ⟨rfl, h⟩)
section
variable {C M : jm_M}
theorem st_eats (h : Inv C M) (x y : Int32) : SC (sW_eats C x y) (sM_eats M x y) := by
  obtain ⟨hw, hr, hd⟩ := h.now
  have h6 := hw.1.p.2
  unfold sW_eats sM_eats
  rw [T_hasPerson_x hw.1, M_isPerson_x hw.1 hr, M_bound]
  simp only [zb_bs]
  by_cases h2 : noP (C 1) x
  · rw [if_pos h2, zb_i00, zb_i00, zb_bs, if_neg (by decide), W_refuse C (k := 1) rfl (by omega), M_no M (k := 1) rfl (by omega)]
    simp only [zb_bs]
    exact SC.mk (Inv_ref h (by omega))
  · obtain ⟨p, hp, rfl⟩ := isP hw.1 h2
    rw [if_neg h2, zb_i10, zb_i10]
    by_cases h3 : 0 ≤ y
    · by_cases h4 : y ≤ 99
      · obtain ⟨n, hn, rfl⟩ := zb_upto (n := 99) (by omega) h3 h4
        obtain ⟨C1, M1, e1, e2, hI, e3⟩ := st_keep h
        have hr1 := hI.now.2.1
        rw [e3] at hr1
        rw [if_pos h3, if_pos h4, if_pos h3, if_pos h4, zb_bs, if_pos rfl, e1, zb_bs, e2, zb_bs, zb_rd (by omega) (by omega), zb_rd (by omega) (by omega), wa_st (by omega) (by omega), zb_wa (by omega) (by omega), e3, (hr1.2.1 p hp).1]
        simp only [zb_bs]
        refine SC.mk (Inv_now hI ?_ (ZT_pt (h.zt (by omega) (by omega)) (Or.inr (Or.inl ⟨Or.inl rfl, by omega⟩))) (TR_upJ hr1 (Or.inl ⟨rfl, rfl⟩)) (mF.one (by omega)))
        refine wf_of hw (by rw [pt_j (by omega)]) (by rw [pt_j (by omega)]) (by rw [pt_j (by omega)]) (by rw [pt_j (by omega)]; exact hw.2.1) ?_ ?_ ⟨pt_j (by omega), pt_j (by omega)⟩
        · rw [pt_j (show ¬ 3 = 2 by omega), pt_j (show ¬ 4 = 2 by omega)]
          intro q hq
          obtain ⟨a1, a2, a3⟩ := hw.2.2.1 q hq
          refine ⟨?_, a2, a3⟩
          by_cases e : q = p
          · subst e; rw [pt_s]; exact ⟨n, hn, rfl⟩
          · rw [pt_k e]; exact a1
        · rw [pt_j (by omega), pt_j (by omega), pt_j (by omega), pt_j (by omega), pt_j (by omega), pt_j (by omega)]
          intro b hb
          obtain ⟨a1, a2, a3, a4, a5, a6⟩ := hw.2.2.2.1 b hb
          exact ⟨a1, a2, a3, a4, a5, rfl⟩
      · rw [if_pos h3, if_neg h4, if_pos h3, if_neg h4, zb_bs, if_neg (by decide), W_refuse C (k := 6) rfl (by omega), M_no M (k := 6) rfl (by omega)]
        simp only [zb_bs]
        exact SC.mk (Inv_ref h (by omega))
    · rw [if_neg h3, if_neg h3, zb_bs, if_neg (by decide), W_refuse C (k := 4) rfl (by omega), M_no M (k := 4) rfl (by omega)]
      simp only [zb_bs]
      exact SC.mk (Inv_ref h (by omega))
/-- one more has read it -/
theorem wf_read {w : Nat} {T : jm_T} (h : wfT w T) {p c : Nat} (hp : p < np T) (hc : c < nb T) : wfT w (pt T 10 c (T 10 c ||| (1 <<< (nI p &&& 31)))) := by
  have h6 := h.1.p.2
  refine wf_of h (by rw [pt_j (by omega)]) (by rw [pt_j (by omega)]) (by rw [pt_j (by omega)]) (by rw [pt_j (by omega)]; exact h.2.1) ?_ ?_ ⟨pt_j (by omega), pt_j (by omega)⟩
  · rw [pt_j (by omega), pt_j (by omega), pt_j (by omega)]; exact h.2.2.1
  · rw [pt_j (show ¬ 6 = 10 by omega), pt_j (show ¬ 7 = 10 by omega), pt_j (show ¬ 8 = 10 by omega), pt_j (show ¬ 9 = 10 by omega), pt_j (show ¬ 11 = 10 by omega)]
    intro b hb
    obtain ⟨a1, a2, a3, a4, a5, a6⟩ := h.2.2.2.1 b hb
    refine ⟨a1, a2, a3, a4, ?_, rfl⟩
    by_cases e : b = c
    · subst e
      rw [pt_s]
      obtain ⟨r, h1, h2, e2⟩ := h.rd hb
      rw [e2, zb_or r h1 p (by omega)]
      have h3 : 2 ^ p < 2 ^ np T := Nat.pow_lt_pow_right (by omega) hp
      have := Nat.or_lt_two_pow h2 h3
      exact ⟨_, by omega, rfl⟩
    · rw [pt_k e]; exact a5
theorem ts_rd01 {w : Nat} {T : jm_T} (hw : wfT w T) {p b : Nat} (hp : p < np T) (hb : b < nb T) : ts_rd T p b = 0 ∨ ts_rd T p b = 1 := by
  obtain ⟨r, h1, h2, e⟩ := hw.rd hb
  have h6 := hw.1.p.2
  unfold ts_rd
  rw [e]
  exact zb_rd01 r h1 p (by omega)
theorem st_reads (h : Inv C M) (x y : Int32) : SC (sW_reads C x y) (sM_reads M x y) := by
  obtain ⟨hw, hr, hd⟩ := h.now
  have h6 := hw.1.p.2
  have h10 := hw.1.b.2
  unfold sW_reads sM_reads
  rw [T_hasPerson_x hw.1, M_isPerson_x hw.1 hr, T_hasBook_x hw.1, M_isBook_x hw.1 hr]
  simp only [zb_bs]
  by_cases h2 : noP (C 1) x
  · rw [if_pos h2, zb_i00, zb_i00, W_refuse C (k := 1) rfl (by omega), M_no M (k := 1) rfl (by omega)]
    simp only [zb_bs]
    exact SC.mk (Inv_ref h (by omega))
  · obtain ⟨p, hp, rfl⟩ := isP hw.1 h2
    rw [if_neg h2, zb_i10, zb_i10]
    by_cases h3 : noB (C 1) y
    · rw [if_pos h3, zb_i00, zb_i00, W_refuse C (k := 1) rfl (by omega), M_no M (k := 1) rfl (by omega)]
      simp only [zb_bs]
      exact SC.mk (Inv_ref h (by omega))
    · obtain ⟨b, hb, rfl⟩ := isB hw.1 h3
      obtain ⟨C1, M1, e1, e2, hI, e3⟩ := st_keep h
      have hr1 := hI.now.2.1
      rw [e3] at hr1
      obtain ⟨g5, g6, g7, g8, g9, -⟩ := hr1.2.2.1 b hb
      have hh := M_hasrd hw hp hb
      rw [if_neg h3, zb_i10, zb_i10, e1, zb_bs, e2, zb_bs, T_hasRead (by omega), zb_rd (by omega) (by omega), zb_rd (by omega) (by omega)]
      simp only [zb_bs]
      rw [wa_st (by omega) (by omega), zb_wa (by omega) (by omega), M_has, g9, e3]
      simp only [zb_bs]
      have ev : (if (if hbit (C 1 10 b) p then (1 : Int32) else 0) = 0 then some 1 else some 0) = some (1 - ts_rd (C 1) p b) := by
        rcases ts_rd01 hw hp hb with q | q
        · rw [if_neg (show ¬ hbit (C 1 10 b) p by rw [hh]; simp [q]), q]; rfl
        · rw [if_pos (show hbit (C 1 10 b) p by rw [hh]; simp [q]), q]; rfl
      rw [ev, zb_bs]
      exact SC.mk (Inv_now hI (wf_read hw hp hb) (ZT_pt (h.zt (by omega) (by omega)) (Or.inr (Or.inr ⟨by omega, by omega⟩))) (TR_upJ hr1 (by omega)) (mF.one (by omega)))
theorem wf_hold {w : Nat} {T : jm_T} (h : wfT w T) {c : Nat} {v : Int32} (hv : pl T v) : wfT w (pt T 9 c v) := by
  refine wf_of h (by rw [pt_j (by omega)]) (by rw [pt_j (by omega)]) (by rw [pt_j (by omega)]) (by rw [pt_j (by omega)]; exact h.2.1) ?_ ?_ ⟨pt_j (by omega), pt_j (by omega)⟩
  · rw [pt_j (by omega), pt_j (by omega), pt_j (by omega)]; exact h.2.2.1
  · rw [pt_j (show ¬ 6 = 9 by omega), pt_j (show ¬ 7 = 9 by omega), pt_j (show ¬ 8 = 9 by omega), pt_j (show ¬ 10 = 9 by omega), pt_j (show ¬ 11 = 9 by omega)]
    intro b hb
    obtain ⟨a1, a2, a3, a4, a5, a6⟩ := h.2.2.2.1 b hb
    refine ⟨a1, a2, a3, ?_, a5, rfl⟩
    by_cases e : b = c
    · subst e; rw [pt_s]; exact hv
    · rw [pt_k e]; exact a4
theorem st_lends (h : Inv C M) (x y : Int32) : SC (sW_lends C x y) (sM_lends M x y) := by
  obtain ⟨hw, hr, hd⟩ := h.now
  have h6 := hw.1.p.2
  have h10 := hw.1.b.2
  unfold sW_lends sM_lends
  rw [T_hasBook_x hw.1, M_isBook_x hw.1 hr, T_hasKeeper_x hw.1, M_isPlace_x hw.1 hr]
  simp only [zb_bs]
  by_cases h2 : noB (C 1) x
  · rw [if_pos h2, zb_i00, zb_i00, W_refuse C (k := 1) rfl (by omega), M_no M (k := 1) rfl (by omega)]
    simp only [zb_bs]
    exact SC.mk (Inv_ref h (by omega))
  · obtain ⟨b, hb, rfl⟩ := isB hw.1 h2
    rw [if_neg h2, zb_i10, zb_i10]
    by_cases h3 : (if y = 9 then (1 : Int32) else if noP (C 1) y then 0 else 1) = 0
    · rw [if_pos h3, if_pos h3, W_refuse C (k := 1) rfl (by omega), M_no M (k := 1) rfl (by omega)]
      simp only [zb_bs]
      exact SC.mk (Inv_ref h (by omega))
    · have hpl : pl (C 1) y := by
        by_cases e : y = 9
        · exact Or.inl e
        · by_cases e2 : noP (C 1) y
          · rw [if_neg e, if_pos e2] at h3; exact absurd rfl h3
          · exact Or.inr (isP hw.1 e2)
      obtain ⟨C1, M1, e1, e2, hI, e3⟩ := st_keep h
      have hr1 := hI.now.2.1
      rw [e3] at hr1
      obtain ⟨g5, g6, g7, g8, g9, -⟩ := hr1.2.2.1 b hb
      rw [if_neg h3, if_neg h3, e1, zb_bs, e2, zb_bs, zb_rd (by omega) (by omega), zb_rd (by omega) (by omega), wa_st (by omega) (by omega), zb_wa (by omega) (by omega), e3, g8]
      simp only [zb_bs]
      exact SC.mk (Inv_now hI (wf_hold hw hpl) (ZT_pt (h.zt (by omega) (by omega)) (Or.inr (Or.inr ⟨by omega, by omega⟩))) (TR_upJ hr1 (by omega)) (mF.one (by omega)))
theorem ts_price_in {w : Nat} {T : jm_T} (hw : wfT w T) {b : Nat} (hb : b < nb T) : zb_in (ts_price T b) 30 := by
  obtain ⟨k, f, r, v, hk, hf, -, -, -, -, e1, e2, -, -⟩ := hw.book hb
  unfold ts_price
  rw [e1, e2]
  have e31 : 3 * (nI f + 1) = nI (3 * f + 3) := by rw [nI_1, show (3 : Int32) = nI 3 from rfl, pk_mul, Nat.mul_add]
  have e35 : jm_max 0 (nI (3 * f + 3) - 5) = nI (3 * f + 3 - 5) := zb_maxsub (c := 5) (by omega) (by omega)
  rw [e31, e35, nI_1, show (2 : Int32) + nI f = nI (2 + f) from by rw [show (2 : Int32) = nI 2 from rfl, nI_add]]
  repeat' split
  all_goals first | exact ⟨_, by omega, rfl⟩ | exact ⟨2, by omega, rfl⟩ | exact ⟨1, by omega, rfl⟩ | exact ⟨5, by omega, rfl⟩ | exact ⟨0, by omega, rfl⟩
theorem wf_buy {w : Nat} {T : jm_T} (h : wfT w T) {p c : Nat} (hp : p < np T) {v : Int32} (hv : zb_in v 99) : wfT w (pt (pt (pt T 8 c (nI p)) 9 c (nI p)) 4 p v) := by
  refine wf_of h (by rw [pt_j (by omega), pt_j (by omega), pt_j (by omega)]) (by rw [pt_j (by omega), pt_j (by omega), pt_j (by omega)]) (by rw [pt_j (by omega), pt_j (by omega), pt_j (by omega)]) (by rw [pt_j (by omega), pt_j (by omega), pt_j (by omega)]; exact h.2.1) ?_ ?_ ⟨by rw [pt_j (by omega), pt_j (by omega), pt_j (by omega)], by rw [pt_j (by omega), pt_j (by omega), pt_j (by omega)]⟩
  · rw [pt_j (show ¬ 2 = 4 by omega), pt_j (show ¬ 2 = 9 by omega), pt_j (show ¬ 2 = 8 by omega), pt_j (show ¬ 3 = 4 by omega), pt_j (show ¬ 3 = 9 by omega), pt_j (show ¬ 3 = 8 by omega)]
    intro q hq
    obtain ⟨a1, a2, a3⟩ := h.2.2.1 q hq
    refine ⟨a1, a2, ?_⟩
    by_cases e : q = p
    · subst e; rw [pt_s]; exact hv
    · rw [pt_k e, pt_j (by omega), pt_j (by omega)]; exact a3
  · intro b hb
    obtain ⟨a1, a2, a3, a4, a5, a6⟩ := h.2.2.2.1 b hb
    rw [pt_j (show ¬ 6 = 4 by omega), pt_j (show ¬ 6 = 9 by omega), pt_j (show ¬ 6 = 8 by omega), pt_j (show ¬ 7 = 4 by omega), pt_j (show ¬ 7 = 9 by omega), pt_j (show ¬ 7 = 8 by omega), pt_j (show ¬ 8 = 4 by omega), pt_j (show ¬ 8 = 9 by omega), pt_j (show ¬ 9 = 4 by omega), pt_j (show ¬ 10 = 4 by omega), pt_j (show ¬ 10 = 9 by omega), pt_j (show ¬ 10 = 8 by omega), pt_j (show ¬ 11 = 4 by omega), pt_j (show ¬ 11 = 9 by omega), pt_j (show ¬ 11 = 8 by omega)]
    refine ⟨a1, a2, ?_, ?_, a5, rfl⟩
    · by_cases e : b = c
      · subst e; rw [pt_s]; exact Or.inr ⟨p, hp, rfl⟩
      · rw [pt_k e]; exact a3
    · by_cases e : b = c
      · subst e; rw [pt_s]; exact Or.inr ⟨p, hp, rfl⟩
      · rw [pt_k e, pt_j (by omega)]; exact a4
theorem st_buys (h : Inv C M) (x y : Int32) : SC (sW_buys C x y) (sM_buys M x y) := by
  obtain ⟨hw, hr, hd⟩ := h.now
  have h6 := hw.1.p.2
  have h10 := hw.1.b.2
  unfold sW_buys sM_buys
  rw [T_hasPerson_x hw.1, M_isPerson_x hw.1 hr, T_hasBook_x hw.1, M_isBook_x hw.1 hr]
  simp only [zb_bs]
  by_cases h2 : noP (C 1) x
  · rw [if_pos h2, zb_i00, zb_i00, zb_bs, if_neg (by decide), W_refuse C (k := 1) rfl (by omega), M_no M (k := 1) rfl (by omega)]
    simp only [zb_bs]
    exact SC.mk (Inv_ref h (by omega))
  · obtain ⟨p, hp, rfl⟩ := isP hw.1 h2
    rw [if_neg h2, zb_i10, zb_i10]
    by_cases h3 : noB (C 1) y
    · rw [if_pos h3, zb_i00, zb_i00, zb_bs, if_neg (by decide), W_refuse C (k := 1) rfl (by omega), M_no M (k := 1) rfl (by omega)]
      simp only [zb_bs]
      exact SC.mk (Inv_ref h (by omega))
    · obtain ⟨b, hb, rfl⟩ := isB hw.1 h3
      obtain ⟨g5, g6, g7, g8, g9, -⟩ := hr.2.2.1 b hb
      rw [if_neg h3, zb_i10, zb_i10, T_priceOf (by omega), M_price hw hr hb, zb_rd (by omega) (by omega), zb_rd (by omega) (by omega), zb_rd (by omega) (by omega), zb_rd (by omega) (by omega), g7, (hr.2.1 p hp).2.2]
      simp only [zb_bs]
      by_cases h4 : C 1 8 b = 9
      · by_cases h5 : ts_price (C 1) b ≤ C 1 4 p
        · obtain ⟨C1, M1, e1, e2, hI, e3⟩ := st_keep h
          have hr1 := hI.now.2.1
          rw [e3] at hr1
          obtain ⟨a, ha, ea⟩ := ts_price_in hw hb
          obtain ⟨m, hm, em⟩ := (hw.2.2.1 p hp).2.2
          have ham : a ≤ m := by
            rw [ea, em, zb_le (by omega) (by omega)] at h5
            exact h5
          rw [if_pos h4, if_pos h5, if_pos h4, if_pos h5, zb_bs, if_pos rfl, e1, zb_bs, e2, zb_bs, wa_st (by omega) (by omega), zb_bs, e3, wa_st (by omega) (by omega), zb_bs, stT_s, stT_2, stT_s, zb_rd (by omega) (by omega), zb_bs, pt_j (show ¬ 4 = 9 by omega), pt_j (show ¬ 4 = 8 by omega), wa_st (by omega) (by omega), zb_bs, stT_s, stT_2, stT_s, zb_rd (by omega) (by omega), zb_bs, pt_s]
          rw [zb_rd (by omega) (by omega), (hr1.2.1 p hp).2.2, zb_bs, M_price hw hr1 hb, zb_bs, zb_wa (by omega) (by omega), zb_bs, zb_wa (by omega) (by omega), zb_bs, zb_wa (by omega) (by omega), zb_bs, zb_rd (by omega) (by omega), zb_bs, zb_up_n (by omega), zb_up_n (by omega), zb_up_s]
          have hv : zb_in (C 1 4 p - ts_price (C 1) b) 99 := by
            rw [ea, em, pk_sub ham]
            exact ⟨_, by omega, rfl⟩
          have hcm : pt (pt (pt (C 1) 8 b (nI p)) 9 b (nI p)) 4 p (C 1 4 p - ts_price (C 1) b) = pt (pt (pt (C 1) 4 p (C 1 4 p - ts_price (C 1) b)) 8 b (nI p)) 9 b (nI p) := by
            funext j i
            simp only [pt]
            by_cases q4 : j = 4
            · subst q4; simp
            · simp [q4]
          refine SC.mk (Inv_now hI (wf_buy hw hp hv) (ZT_pt (ZT_pt (ZT_pt (h.zt (by omega) (by omega)) (Or.inr (Or.inr ⟨by omega, by omega⟩))) (Or.inr (Or.inr ⟨by omega, by omega⟩))) (Or.inr (Or.inl ⟨by omega, by omega⟩))) ?_ (((mF.one (by omega)).tr (mF.one (by omega))).tr (mF.one (by omega))))
          rw [hcm]
          exact TR_upJ (TR_upJ (TR_upJ hr1 (by omega)) (by omega)) (by omega)
        · rw [if_pos h4, if_neg h5, if_pos h4, if_neg h5, zb_bs, if_neg (by decide), W_refuse C (k := 3) rfl (by omega), M_no M (k := 3) rfl (by omega)]
          simp only [zb_bs]
          exact SC.mk (Inv_ref h (by omega))
      · rw [if_neg h4, if_neg h4, zb_bs, if_neg (by decide), W_refuse C (k := 3) rfl (by omega), M_no M (k := 3) rfl (by omega)]
        simp only [zb_bs]
        exact SC.mk (Inv_ref h (by omega))
theorem st_clearLaw (h : Inv C M) : SC (sW_clearLaw C) (sM_clearLaw M) := by
  obtain ⟨hw, hr, hd⟩ := h.now
  obtain ⟨C1, M1, e1, e2, hI, e3⟩ := st_keep h
  have hr1 := hI.now.2.1
  rw [e3] at hr1
  unfold sW_clearLaw sM_clearLaw
  rw [e1, zb_bs, e2, zb_bs, zb_bs, zb_bs, wf_st, zb_bs, e3]
  unfold jm_wf
  rw [zb_bs, hr1.1.2.2.2]
  have e00 : pt (C 1) 0 12 0 0 0 = C 1 0 0 := pt_k (by omega)
  have e04 : pt (C 1) 0 12 0 0 4 = C 1 0 4 := pt_k (by omega)
  refine SC.mk (Inv_now hI ?_ (ZT_pt (h.zt (by omega) (by omega)) (Or.inl ⟨rfl, by omega⟩)) ?_ (mF.fld (by decide)))
  · refine ⟨⟨by rw [e00]; exact hw.1.1, by rw [e04]; exact hw.1.2.1, ?_⟩, by rw [pt_k (by omega)]; exact hw.2.1, ?_, ?_, ?_, ?_⟩
    · rw [pt_s]; exact ⟨0, by omega, rfl⟩
    · rw [np_e e00, pt_j (by omega), pt_j (by omega), pt_j (by omega)]; exact hw.2.2.1
    · rw [nb_e e04, np_e e00, pt_j (by omega), pt_j (by omega), pt_j (by omega), pt_j (by omega), pt_j (by omega), pt_j (by omega)]
      intro b hb
      rw [pl_e e00, pl_e e00]
      exact hw.2.2.2.1 b hb
    · intro i hi
      unfold ns at hi
      rw [pt_s] at hi
      exact absurd hi (by rw [← nI_0, zb_N_nI (by omega)]; omega)
    · rw [nb_e e04, pt_j (by omega)]; exact hw.2.2.2.2.2
  · have ej : ∀ j, ¬ j = 0 → jm_up M1 0 0 16 0 0 j = M1 0 j := fun j hj => by funext k; exact zb_up_n (by omega)
    refine ⟨?_, ?_, ?_, ?_⟩
    · rw [zb_up_n (by omega), zb_up_n (by omega), zb_up_n (by omega), zb_up_s, e00, e04, pt_k (by omega), pt_s]
      exact ⟨hr1.1.1, hr1.1.2.1, hr1.1.2.2.1, rfl⟩
    · rw [np_e e00, ej 2 (by omega), ej 3 (by omega), ej 4 (by omega), pt_j (by omega), pt_j (by omega), pt_j (by omega)]; exact hr1.2.1
    · rw [nb_e e04, ej 5 (by omega), ej 6 (by omega), ej 7 (by omega), ej 8 (by omega), ej 9 (by omega), pt_j (show ¬ 6 = 0 by omega), pt_j (show ¬ 7 = 0 by omega), pt_j (show ¬ 8 = 0 by omega), pt_j (show ¬ 9 = 0 by omega), pt_j (show ¬ 10 = 0 by omega)]
      intro b hb
      obtain ⟨a1, a2, a3, a4, a5, a6⟩ := hr1.2.2.1 b hb
      refine ⟨a1, a2, a3, a4, a5, ?_⟩
      unfold ti dg at a6 ⊢
      rw [ej 10 (by omega), ej 11 (by omega), pt_j (by omega)]
      exact a6
    · intro i hi
      unfold ns at hi
      rw [pt_s] at hi
      exact absurd hi (by rw [← nI_0, zb_N_nI (by omega)]; omega)
theorem st_weeks (h : Inv C M) (x : Int32) : SC (sW_weeks C x) (sM_weeks M x) := by
  obtain ⟨hw, hr, hd⟩ := h.now
  obtain ⟨ew, hwk⟩ := hw.w (by omega)
  unfold sW_weeks sM_weeks
  rw [M_bound]
  simp only [zb_bs]
  by_cases h1 : 1 ≤ x
  · by_cases h2 : x ≤ 60
    · have h0 : 0 ≤ x := by
        rw [Int32.le_iff_toInt_le] at h1 ⊢
        have e0 : (0 : Int32).toInt = 0 := rfl
        have e1 : (1 : Int32).toInt = 1 := rfl
        omega
      have h2' : ¬ (60 : Int32) < x := by rw [Int32.lt_iff_toInt_lt]; rw [Int32.le_iff_toInt_le] at h2; omega
      obtain ⟨n, hn, rfl⟩ := zb_upto (n := 60) (by omega) h0 h2
      rw [if_pos h1, if_neg h2', if_pos h1, if_pos h2, if_pos rfl, hr.1.2.2.1, ew, nI_add]
      by_cases h3 : nw (C 1) + n ≤ 999
      · obtain ⟨C1, M1, e1, e2, hI, e3⟩ := st_keep h
        have hr1 := hI.now.2.1
        rw [e3] at hr1
        have hw1 : wfT (nw (C 1)) (C 1) := ⟨hw.1, ⟨nw (C 1), Nat.le_refl _, ew⟩, hw.2.2⟩
        have hd1 : M1 0 0 17 = 0 := hI.now.2.2
        obtain ⟨M2, e4, hr2, f2⟩ := M_goes hw1 (n := n) (by omega) hr1 hd1
        have hwn := wf_wkN n hw1
        rw [if_pos (show nI (nw (C 1) + n) ≤ (999 : Int32) from zb_yle (b := 999) h3 (by omega)), if_pos (show nI (nw (C 1) + n) ≤ (999 : Int32) from zb_yle (b := 999) h3 (by omega)), zb_bs, if_pos rfl, e1, zb_bs, e2, zb_bs, e4, zb_bs, T_weeksPass (by rw [e3]; exact hw.1) (by omega), zb_bs, e3, stT_s, hr2.1.2.2.1]
        exact SC.mk (Inv_now hI ⟨hwn.1, zb_in_mono hwn.2.1 h3, hwn.2.2⟩ (ZT_wkN (h.zt (by omega) (by omega)) n hw.1) hr2 (f2.mono (fun x h => by simp at h ⊢; omega) (fun x h => by simp at h ⊢; omega)))
      · have h3' : ¬ nI (nw (C 1) + n) ≤ (999 : Int32) := zb_nle (b := 999) (by omega) (by omega)
        rw [if_neg h3', if_neg h3', zb_bs, if_neg (by decide), W_refuse C (k := 6) rfl (by omega), M_no M (k := 6) rfl (by omega)]
        simp only [zb_bs]
        exact SC.mk (Inv_ref h (by omega))
    · have h2' : (60 : Int32) < x := by rw [Int32.lt_iff_toInt_lt]; rw [Int32.le_iff_toInt_le] at h2; omega
      rw [if_pos h1, if_pos h2', if_pos h1, if_neg h2, if_neg (by decide), zb_bs, if_neg (by decide), W_refuse C (k := 6) rfl (by omega), M_no M (k := 6) rfl (by omega)]
      simp only [zb_bs]
      exact SC.mk (Inv_ref h (by omega))
  · rw [if_neg h1, if_neg h1, if_neg (by decide), zb_bs, if_neg (by decide), W_refuse C (k := 4) rfl (by omega), M_no M (k := 4) rfl (by omega)]
    simp only [zb_bs]
    exact SC.mk (Inv_ref h (by omega))
end
