section
variable {C M : jm_M}
theorem forget_st {T : jm_T} : stT (jm_up C 13 0 2 0) 1 T = jm_up (stT C 1 T) 13 0 2 0 := by
  funext t a b
  by_cases ht : t = 1
  · subst ht
    rw [stT_s, zb_up_n (by omega), stT_s]
  · rw [stT_n ht]
    by_cases hq : t = 13 ∧ a = 0 ∧ b = 2
    · obtain ⟨rfl, rfl, rfl⟩ := hq
      rw [zb_up_s, zb_up_s]
    · rw [zb_up_n hq, zb_up_n hq, stT_n ht]
theorem st_brings (h : Inv C M) (x y z a : Int32) : SC (sW_brings C x y z a) (sM_brings M x y z a) := by
  obtain ⟨hw, hr, hd⟩ := h.now
  have h10 := hw.1.b
  have no2 : ∀ {k : Nat} {e : Int32}, -e = nI k → k < 7 → ¬ e = 0 → SC ((sW_refuse C e).bind (fun r => some (r.1, r.2))) (((some e).bind fun e2 => (if e2 = 0 then (sM_isLetterTitle M a).bind fun r13 => if r13 = 0 then some e2 else some (-3) else some e2).bind fun e11 => if e11 = 0 then (sM_isBrought M x y z).bind fun r16 => (sM_isTitledMore r16 a).bind fun r17 => (jm_wf r17 0 36 0).bind fun M18 => some (M18 0 0 14 - 1, M18) else (sM_no M e11).bind fun r19 => some (r19.1, r19.2))) := by
    intro k e h1 h2 h3
    rw [zb_bs, if_neg h3, zb_bs, if_neg h3]
    exact SC_no h h1 h2
  unfold sW_brings sM_brings
  rw [M_isIn07, zb_bs]
  by_cases a1 : x < 0
  · rw [if_pos a1, if_pos a1, if_pos rfl]
    exact no2 (k := 2) rfl (by omega) (by decide)
  rw [if_neg a1, if_neg a1]
  by_cases a2 : x < 8
  · rw [if_pos a2, if_pos a2, zb_i10]
    by_cases a3 : y < 0
    · rw [if_pos a3, if_pos a3]
      exact no2 (k := 4) rfl (by omega) (by decide)
    rw [if_neg a3, if_neg a3]
    by_cases a4 : 0 ≤ a
    · rw [if_pos a4, if_pos a4]
      by_cases a5 : 9 < y
      · rw [if_pos a5, if_pos a5]
        exact no2 (k := 6) rfl (by omega) (by decide)
      rw [if_neg a5, if_neg a5]
      by_cases a6 : 25 < a
      · rw [if_pos a6, if_pos a6]
        exact no2 (k := 6) rfl (by omega) (by decide)
      rw [if_neg a6, if_neg a6, hr.1.2.1, h10.1]
      by_cases c1 : nb (C 1) = 10
      · rw [c1, if_neg (by decide), if_pos (by decide)]
        exact no2 (k := 6) rfl (by omega) (by decide)
      · have hn : nb (C 1) < 10 := by omega
        rw [if_pos (show nI (nb (C 1)) < (10 : Int32) from by rw [show (10 : Int32) = nI 10 from rfl, zb_lt (by omega) (by omega)]; exact hn), if_neg (show ¬ nI (nb (C 1)) = (10 : Int32) from by rw [show (10 : Int32) = nI 10 from rfl, zb_eq (by omega) (by omega)]; exact c1), T_hasKeeper_x hw.1, M_isPlace_x hw.1 hr, zb_bs, zb_bs]
        by_cases h3 : (if z = 9 then (1 : Int32) else if noP (C 1) z then 0 else 1) = 0
        · rw [if_pos h3, if_pos h3]
          exact no2 (k := 1) rfl (by omega) (by decide)
        · have hpl : pl (C 1) z := by
            by_cases e : z = 9
            · exact Or.inl e
            · by_cases e2 : noP (C 1) z
              · rw [if_neg e, if_pos e2] at h3; exact absurd rfl h3
              · exact Or.inr (isP hw.1 e2)
          obtain ⟨c, hc, rfl⟩ := zb_not_lt (Int32.not_lt.2 a4) (n := 25) a6 (by omega)
          obtain ⟨r, hf⟩ := zb_ff_ex (fun b => C 1 11 b = nI ((c + 1) * 19683)) (nb (C 1))
          rw [if_neg h3, if_neg h3, ofLetter_at (by omega), zb_bs, T_bookWithTitle hw.1 hf, zb_bs, zb_bs, if_pos rfl, M_isLetterTitle hw.1 hr (by omega) hf]
          cases r with
          | some b =>
            rw [show zb_o (some b) = nI b from rfl, if_neg (zb_nd (by have := hf.1; omega)), zb_bs]
            simp only []
            rw [if_neg (by decide), zb_bs, if_neg (by decide)]
            exact SC_no h (k := 3) rfl (by omega)
          | none =>
            have tlc := tl1 (show c < 26 by omega)
            have w := wf_addB hw hn (zb_not_lt a1 (n := 7) (by rw [Int32.lt_iff_toInt_lt] at a2 ⊢; have e8 : (8 : Int32).toInt = 8 := rfl; rw [nI_toInt (by omega)]; omega) (by omega)) (zb_not_lt a3 (n := 9) a5 (by omega)) hpl tlc hf
            have b1 := M_isBrought hn (show M 0 0 14 = nI (nb (C 1)) by rw [hr.1.2.1]; exact h10.1) x y z
            have R := brM_R M (nb (C 1)) x y z
            have b2 := M_isTitledMore (M := brM M (nb (C 1)) x y z) (l := 0) hn (by omega) R.1 (brM_10 M _ x y z) (nI c)
            have R2 := brR_more (l := 0) (c := nI c) (d := nI (0 + 1)) (by omega) R
            have tn : ti (addB (C 1) x y z (nI ((c + 1) * 19683))) (jm_up (jm_up (brM M (nb (C 1)) x y z) 0 11 (4 * nb (C 1) + 0) (nI c)) 0 10 (nb (C 1)) (nI (0 + 1)) 0) (nb (C 1)) := by
              have g10 : jm_up (jm_up (brM M (nb (C 1)) x y z) 0 11 (4 * nb (C 1) + 0) (nI c)) 0 10 (nb (C 1)) (nI (0 + 1)) 0 10 (nb (C 1)) = nI 1 := zb_up_s
              have g11 : jm_up (jm_up (brM M (nb (C 1)) x y z) 0 11 (4 * nb (C 1) + 0) (nI c)) 0 10 (nb (C 1)) (nI (0 + 1)) 0 11 (4 * nb (C 1) + 0) = nI c := by
                rw [zb_up_n (by omega), zb_up_s]
              generalize jm_up (jm_up (brM M (nb (C 1)) x y z) 0 11 (4 * nb (C 1) + 0) (nI c)) 0 10 (nb (C 1)) (nI (0 + 1)) 0 = g at g10 g11
              have n1 : zb_N (g 10 (nb (C 1))) = 1 := by rw [g10, zb_N_nI (by omega)]
              have d0 : dg g (nb (C 1)) 0 = c + 1 := by unfold dg; rw [if_pos (by omega), g11, zb_N_nI (by omega)]
              have dz : ∀ i, 1 ≤ i → dg g (nb (C 1)) i = 0 := fun i hi => by unfold dg; rw [if_neg (by omega)]
              refine ⟨by rw [g10]; exact ⟨1, by omega, rfl⟩, by omega, fun i hi => ?_, ?_⟩
              · rw [show i = 0 by omega, g11]; exact ⟨c, by omega, rfl⟩
              · rw [(addB_new (C 1) x y z (nI ((c + 1) * 19683))).2.2.2.2.2, d0, dz 1 (by omega), dz 2 (by omega), dz 3 (by omega)]
                unfold tl_v
                rw [show (c + 1) * 19683 = (((c + 1) * 27 + 0) * 27 + 0) * 27 + 0 by omega]
            have hI := Inv_now h w (ZT_addB (h.zt (by omega) (by omega)) hn x y z _) (TR_addB hr hn R2 tn) (((brM_mF M _ x y z).tr (mF.one (by omega))).tr (mF.one (by omega)))
            have e1 : jm_up C 13 0 2 0 1 = C 1 := by funext a b; exact zb_up_n (by omega)
            rw [show zb_o none = -9 from rfl, if_pos (by decide), P_forget, zb_bs, T_addBook (by rw [e1]; exact hw.1) (by rw [e1]; exact hn), zb_bs, e1, forget_st, zb_bs]
            simp only []
            rw [if_pos trivial, zb_bs, if_pos rfl, b1, zb_bs, b2, zb_bs, wf_up, zb_bs]
            refine ⟨nI (nb (C 1)), _, _, rfl, ?_, Inv_forget hI⟩
            rw [zb_up_n (by omega), R2.1, show (1 : Int32) = nI 1 from rfl, pk_sub (by omega), Nat.add_sub_cancel]
    · rw [if_neg a4, if_neg a4]
      exact no2 (k := 4) rfl (by omega) (by decide)
  · rw [if_neg a2, if_neg a2, if_pos rfl]
    exact no2 (k := 2) rfl (by omega) (by decide)
end
