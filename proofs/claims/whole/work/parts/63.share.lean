section
variable {C M : jm_M}
theorem SL_no (h : Inv C M) {k : Nat} {x : Int32} (hx : -x = nI k) (hk : k < 7) : SL ((sW_refuse C x).bind (fun r => some (4000000000000000000 - ((r.1 : Int32).toInt64), r.2))) ((sM_lowestOf M x).bind (fun r => some (r.1, r.2))) := by
  rw [W_refuse C hx hk, M_lowest M hx hk, zb_bs, zb_bs]
  exact SL.mk (Inv_ref h hk)
theorem ts_many_in {w : Nat} {T : jm_T} (hw : wfT w T) {p : Nat} (hp : p < np T) : ∃ m, m ≤ 10 ∧ ts_many T p = nI m := by
  obtain ⟨s, h1, h2, h3⟩ := ts_readBy_s hw hp
  obtain ⟨e1, e2⟩ := ts_bc_in s h1
  exact ⟨_, e2, by rw [← h3]; exact e1⟩
theorem st_share (h : Inv C M) (x y : Int32) : SL (sW_share C x y) (sM_share M x y) := by
  obtain ⟨hw, hr, hd⟩ := h.now
  have h10 := hw.1.b
  unfold sW_share sM_share
  rw [T_hasPerson_x hw.1, M_isPerson_x hw.1 hr, W_neither, M_isIn01]
  simp only [zb_bs]
  by_cases h2 : noP (C 1) x
  · rw [if_pos h2, zb_i00, zb_i00, zb_bs, if_neg (by decide)]
    exact SL_no h (k := 1) rfl (by omega)
  · obtain ⟨p, hp, rfl⟩ := isP hw.1 h2
    rw [if_neg h2, zb_i10, zb_i10]
    by_cases h5 : y = 0 ∨ y = 1
    · rw [if_pos h5, if_pos h5, zb_i00, zb_i10, zb_bs, if_pos rfl, T_readingsOf hw hp, zb_bs, hr.1.2.1, h10.1, M_manyRead hw (by omega) hr, zb_bs]
      obtain ⟨m, m1, m2⟩ := ts_many_in hw hp
      by_cases g : nb (C 1) = 0
      · have mz : ts_many (C 1) p = nI 0 := by
          unfold ts_many
          rw [g]
          rfl
        rw [mz, g, if_pos (show nI 0 = 0 from rfl)]
        unfold sQ_part
        rw [show ((nI 0 : Int32).toInt64) = lN 0 from nI_l (by omega), if_pos (show lg_cmp (lN 0) 0 = 0 by rw [zb_lcmp (by omega)]), zb_bs]
        exact SL.mk h
      · have g0 : ¬ nI (nb (C 1)) = 0 := by rw [← nI_0, zb_eq (by omega) (by omega)]; exact g
        obtain ⟨v, v1, v2⟩ := parts (a := m) (b := nb (C 1)) (x := y) (by omega) (by omega) (by omega) h5
        rw [if_neg g0, m2, nI_l (by omega), nI_l (by omega), v1, v2, zb_bs, zb_bs]
        exact SL.mk h
    · rw [if_neg h5, if_neg h5, zb_i10, zb_i00, zb_bs, if_neg (by decide)]
      exact SL_no h (k := 2) rfl (by omega)
end
