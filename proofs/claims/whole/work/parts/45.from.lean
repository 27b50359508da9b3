section
variable {C M : jm_M}
theorem st_from (h : Inv C M) (x : Int32) : SC (sW_from C x) (sM_from M x) := by
  obtain ⟨hw, hr, hd⟩ := h.now
  have h10 := hw.1.b
  unfold sW_from sM_from
  rw [M_bound]
  simp only [zb_bs]
  by_cases h3 : 0 ≤ x
  · by_cases h4 : x ≤ 25
    · obtain ⟨c, hc, rfl⟩ := zb_upto (n := 25) (by omega) h3 h4
      rw [if_pos h3, if_pos h4, if_pos h3, if_pos h4, if_pos rfl, ofLetter_at (by omega), zb_bs]
      obtain ⟨X, hX⟩ : ∃ X, X = (c + 1) * 19683 := ⟨_, rfl⟩
      rw [← hX]
      have r1 := ftG_P (C 1) X (nb (C 1))
      have r2 := T_firstTitleFrom hw (x := X) (by omega)
      have r3 := ft_ff hw r1
      have hz := zc_le (fun k => tt (C 1) k < X) (nb (C 1))
      rw [r2]
      refine ⟨_, C, M, rfl, ?_, h⟩
      refine zb_forB (fun n => (nI (zc (fun k => tt (C 1) k < X) n), nI n)) (nI (zc (fun k => tt (C 1) k < X) (nb (C 1)))) (nb (C 1)) rfl ?_ ?_ (by omega) ?_
      · intro k hk
        obtain ⟨g5, g6, g7, g8, g9, gt⟩ := hr.2.2.1 k hk
        unfold sM_from_L23
        have e : zc (fun k => tt (C 1) k < X) (k + 1) = if tt (C 1) k < X then zc (fun k => tt (C 1) k < X) k + 1 else zc (fun k => tt (C 1) k < X) k := rfl
        have d := dg_at hr hw.1 hk (show 0 < 4 by omega)
        obtain ⟨e1, e2⟩ := zb_in_N gt.1 (by omega)
        have l1 := gt.2.1
        rw [if_neg (by rw [e1]; exact zb_nle (by omega) (by omega)), show nI 0 = 0 from rfl, Int32.add_zero] at d
        have d2 : jm_rd 40 (M 0 11) (4 * nI k) = some (nI (dg (M 0) k 0) - 1) := by
          rw [← d]
          cases jm_rd 40 (M 0 11) (4 * nI k) <;> rfl
        obtain ⟨a1, a2, a3, a4, a5, -⟩ := ti_d gt
        have et : tt (C 1) k = tl_v (dg (M 0) k 0) (dg (M 0) k 1) (dg (M 0) k 2) (dg (M 0) k 3) := by
          unfold tt
          rw [gt.2.2.2, zb_N_nI (by have := tl_lt (ti_d gt); omega)]
        have ed : nI (dg (M 0) k 0) - 1 = nI (dg (M 0) k 0 - 1) := by rw [show (1 : Int32) = nI 1 from rfl, pk_sub (by omega)]
        have ec : (tt (C 1) k < X) = (dg (M 0) k 0 - 1 < c) := by
          rw [et, hX]
          unfold tl_v
          exact propext (by omega)
        rw [hr.1.2.1, h10.1, if_neg (zb_nle hk (by omega)), d2, zb_bs, ed, e]
        simp only [nI_1, zb_bs, Int32.add_zero]
        by_cases q : tt (C 1) k < X
        · rw [if_neg (zb_nle (by rw [ec] at q; exact q) (by omega)), if_pos q]
        · rw [if_pos (zb_yle (by rw [ec] at q; omega) (by omega)), if_neg q]
      · unfold sM_from_L23
        rw [hr.1.2.1, h10.1, if_pos (zb_yle (Nat.le_refl _) (by omega))]
      · rw [M_ofRank hw hr (by omega) r3]
        rfl
    · rw [if_pos h3, if_neg h4, if_pos h3, if_neg h4, if_neg (by decide), W_refuse C (k := 6) rfl (by omega), M_no M (k := 6) rfl (by omega)]
      simp only [zb_bs]
      exact SC.mk (Inv_ref h (by omega))
  · rw [if_neg h3, if_neg h3, if_neg (by decide), W_refuse C (k := 4) rfl (by omega), M_no M (k := 4) rfl (by omega)]
    simp only [zb_bs]
    exact SC.mk (Inv_ref h (by omega))
end
