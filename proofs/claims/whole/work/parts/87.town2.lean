/-! town -/
section
variable {C M : jm_M}
theorem up14_t {C : jm_M} {t : Nat} {v : Int32} (ht : ¬ t = 14) : jm_up C 14 0 1 v t = C t := by
  funext a b
  exact zb_up_n (by omega)
theorem st_town (h : Inv C M) : SC (sW_town C) (sM_town M) := by
  obtain ⟨hw, hr, hd⟩ := h.now
  have z1 := h.zt (t := 1) (by omega) (by omega)
  have z3 := h.zt (t := 3) (by omega) (by omega)
  obtain ⟨l, l1, l2, l3, l4⟩ := h.2.2.2.1
  obtain ⟨X, hXd⟩ : ∃ X : jm_X, X = fun i => if i < l then zb_N (C 14 1 i) else 999 := ⟨_, rfl⟩
  have hX : txX X l := by
    refine ⟨l1, fun i hi => ?_, fun i hi => ?_⟩
    · rw [hXd]
      show (if i < l then _ else _) ≤ 255
      rw [if_pos hi]
      exact (zb_in_N (l4 i hi).2 (by omega)).2
    · rw [hXd]
      show (if i < l then _ else _) = 999
      rw [if_neg (by omega)]
  have hXi : ∀ i, i < l → C 14 1 i = nI (X i) := by
    intro i hi
    rw [hXd]
    show _ = nI (if i < l then _ else _)
    rw [if_pos hi]
    exact (zb_in_N (l4 i hi).2 (by omega)).1
  have tC : txC C X l := ⟨hX, l2, hXi⟩
  have tM3 : txM (jm_up (jm_up (jm_up M 0 0 27 0) 0 0 28 0) 0 0 30 0) X l := ⟨hX, by rw [zb_up_n (by omega), zb_up_n (by omega), zb_up_n (by omega)]; exact l3, fun i hi => by rw [zb_up_n (by omega), zb_up_n (by omega), zb_up_n (by omega), ← (l4 i hi).1]; exact hXi i hi⟩
  obtain ⟨⟨v, Me⟩, e1, e2, e3, e4, e5⟩ := M_townLoop tM3 (by rw [zb_up_n (by omega), zb_up_n (by omega), zb_up_s]) (by rw [zb_up_n (by omega), zb_up_s]) zb_up_s
  have e2' : v = bI (stm X (aS X (nK X l))).1 := e2
  have e3' : wrL (jm_up (jm_up (jm_up M 0 0 27 0) 0 0 28 0) 0 0 30 0) Me := e3
  have e4' : Me 0 0 27 = nI (aS X (nK X l + 1)) := e4
  subst e2'
  obtain ⟨a, b, k47, a96⟩ := nK_at hX
  have ab : aS X (nK X l + 1) < 250 := by rw [aS_S]; exact stm_b hX (by omega)
  have mE : ∀ j k, ¬ (j = 0 ∧ 27 ≤ k ∧ k ≤ 30) → ¬ (20 ≤ j ∧ j ≤ 26) → Me 0 j k = M 0 j k := fun j k h1 h2 => by
    rw [e3' 0 j k (by omega), zb_up_n (by omega), zb_up_n (by omega), zb_up_n (by omega)]
  unfold sW_town sM_town sS_tellTo
  rw [wf_up, zb_bs, wf_up, zb_bs, wf_up, zb_bs, e1, zb_bs, S_canBeRead tC, zb_bs]
  simp only []
  rw [wf_up (M := Me), zb_bs]
  cases c : (stm X (aS X (nK X l))).1 with
  | false =>
    rw [if_pos (show bI false = 0 from rfl), if_pos (show bI false = 0 from rfl), zb_bs, atP_p]
    simp only []
    rw [wf_up, zb_bs, if_pos (zb_m1k _ ab), zb_up_n (show ¬ (0 = 0 ∧ 0 = 0 ∧ 27 = 26) by omega), e4']
    refine SC.mk (Inv_txt h (fun t h1 h2 h3 => ?_) ?_ ?_ ?_ zb_up_s zb_up_s (fun j i hc => ?_) (fun j k hj => ?_))
    · by_cases g : t = 14
      · omega
      · rw [up14_t g, atP_t g]
    · rw [up14_t (by omega), atP_t (by omega)]; exact z3
    · rw [up14_t (by omega), atP_t (by omega)]
    · rw [up14_t (by omega), atP_t (by omega)]
    · rw [zb_up_n (by rcases hc with ⟨h1, h2, h3⟩ | ⟨h1, h2, h3⟩ <;> omega)]
      rcases hc with ⟨h1, h2, h3⟩ | ⟨h1, h2, h3⟩
      · exact mE j i (by omega) (by omega)
      · exact mE j i (by omega) (by omega)
    · rw [zb_up_n (by omega)]
      exact mE j k (by omega) (by omega)
  | true =>
    have hall : allR X l := c
    obtain ⟨q28, W, hW, hrec⟩ := e5 hall
    have q28' : Me 0 0 28 = nI (nK X l + 1) := q28
    have al := (allR_n hX hall).1
    obtain ⟨Mk, k1, k2, k3, k4⟩ := M_keepAll (M := jm_up Me 0 0 26 0) (n := 1) (by omega)
    have k1' : sM_passesAll (jm_up Me 0 0 26 0) 1 1 = some Mk := k1
    have mK : ∀ j k, ¬ (j = 0 ∧ ((26 ≤ k ∧ k ≤ 30) ∨ k = 33 ∨ k = 34)) → ¬ (20 ≤ j ∧ j ≤ 26) → ¬ j = 32 → Mk 0 j k = M 0 j k := fun j k h1 h2 h3 => by
      rw [k4 0 j k (by simp; omega), zb_up_n (by omega)]
      exact mE j k (by omega) h2
    have mcore : ∀ j i, core j i → Mk 0 j i = M 0 j i := fun j i hc => by
      rcases hc with ⟨h1, h2, h3⟩ | ⟨h1, h2, h3⟩
      · exact mK j i (by omega) (by omega) (by omega)
      · exact mK j i (by omega) (by omega) (by omega)
    have m32 : ∀ k, ¬ (135 ≤ k ∧ k < 269) → Mk 0 32 k = M 0 32 k := fun k hk => by
      rw [k3 k (by omega), zb_up_n (by omega)]
      exact mE 32 k (by omega) (by omega)
    have hk28 : Mk 0 0 28 = nI (nK X l + 1) := by rw [k4 0 0 28 (by simp), zb_up_n (by omega)]; exact q28'
    have H : tnH C Mk X l W := ⟨tC, ⟨hX, fun i hi => by rw [mK 19 i (by omega) (by omega) (by omega), ← (l4 i hi).1]; exact hXi i hi⟩, hall, hW, hk28, by rw [mK 0 17 (by omega) (by omega) (by omega)]; exact hd, fun s hs => by
      have q := hrec s hs
      have q' : rec_ X Me W s (aS X s) := q
      exact q'.rows (fun j k h1 h2 => by rw [k4 0 j k (by simp; omega), zb_up_n (by omega)])⟩
    have key := town_loops H (nK X l + 1) 0 jm_N jm_N (C 1) Mk (by omega) (by rw [jm_N_eq]; omega) (by rw [jm_N_eq]; omega) hw z1 (TR_core hr hw.1 mcore) coreF.rf
    have key : tnG C Mk X l (jm_loop sS_tellTo_L31 jm_N (0, atP (stT C 3 (C 1)) 0)) (jm_loop sM_town_L91 jm_N (0, Mk)) := key
    rw [if_neg (show ¬ bI true = 0 by decide), if_neg (show ¬ bI true = 0 by decide), k1', zb_bs, T_copyFrom (by omega) (by rw [atP_t (by omega)]; exact z3) (by rw [atP_t (by omega)]; exact z1), zb_bs, atP_s (by omega), atP_t (show ¬ 1 = 14 by omega), wf_up, zb_bs, show jm_up (atP (stT C 3 (C 1)) (aS X (nK X l + 1))) 14 0 2 0 = atP (stT C 3 (C 1)) 0 from atP_2 (j := 0)]
    -- what is left of the class: the draft, the place, no letters
    have base : ∀ (T' : jm_T) (p : Nat), ZT T' → ∀ M', M' 0 0 26 = 0 → (∀ j i, core j i → M' 0 j i = M 0 j i) → (∀ j k, ¬ ((2 ≤ j ∧ j ≤ 13) ∨ (j = 0 ∧ ((13 ≤ k ∧ k ≤ 16) ∨ (26 ≤ k ∧ k ≤ 30) ∨ k = 33 ∨ k = 34)) ∨ (20 ≤ j ∧ j ≤ 26) ∨ (j = 32 ∧ 135 ≤ k ∧ k < 269)) → M' 0 j k = M 0 j k) → Inv (jm_up (atP (stT C 3 T') p) 14 0 1 0) M' := by
      intro T' p zT M' m26 mc mo
      refine Inv_txt h (fun t h1 h2 h3 => ?_) ?_ ?_ ?_ zb_up_s m26 mc mo
      · by_cases g : t = 14
        · omega
        · rw [up14_t g, atP_t g, stT_n h3]
      · rw [up14_t (by omega), atP_t (by omega), stT_s]; exact zT
      · rw [up14_t (by omega), atP_t (by omega), stT_n (by omega)]
      · rw [up14_t (by omega), atP_t (by omega), stT_n (by omega)]
    have mk26 : Mk 0 0 26 = 0 := by rw [k4 0 0 26 (by simp), zb_up_s]
    have mko : ∀ j k, ¬ ((2 ≤ j ∧ j ≤ 13) ∨ (j = 0 ∧ ((13 ≤ k ∧ k ≤ 16) ∨ (26 ≤ k ∧ k ≤ 30) ∨ k = 33 ∨ k = 34)) ∨ (20 ≤ j ∧ j ≤ 26) ∨ (j = 32 ∧ 135 ≤ k ∧ k < 269)) → Mk 0 j k = M 0 j k := fun j k hj => by
      by_cases g : j = 32
      · subst g; exact m32 k (by omega)
      · exact mK j k (by omega) (by omega) g
    rcases key with ⟨T', MS, r1, r2, w2, zT, tr2, f2⟩ | ⟨q, T', p, M2, M1, hq, r1, r2, zT, f2, y2, y3⟩
    · rw [r1, r2, zb_bs, zb_bs]
      show SC (((sT_copyFrom (atP (stT C 3 T') l) 1 3).bind (fun r15 => some (nI (nK X l + 1), r15))).bind _) ((jm_wf MS 0 36 0).bind (fun M27 => some (M27 0 0 28, M27)))
      rw [T_copyFrom (by omega) (by rw [atP_t (by omega), stT_n (by omega)]; exact z1) (by rw [atP_t (by omega), stT_s]; exact zT), zb_bs, zb_bs]
      simp only []
      rw [wf_up, zb_bs, if_neg (zb_nd (by omega)), P_forget, zb_bs, wf_up, zb_bs, zb_up_n (show ¬ (0 = 0 ∧ 0 = 0 ∧ 28 = 36) by omega), f2 0 0 28 (by simp), hk28, atP_t (show ¬ 3 = 14 by omega), stT_s]
      have hI := Inv_now (base T' l zT Mk mk26 mcore mko) w2 zT tr2 f2
      have ec : jm_up (stT (atP (stT C 3 T') l) 1 T') 14 0 1 0 = stT (jm_up (atP (stT C 3 T') l) 14 0 1 0) 1 T' := by
        funext t A B
        by_cases ht : t = 1
        · subst ht
          rw [zb_up_n (by omega), stT_s, stT_s]
        · rw [stT_n ht]
          by_cases hq : t = 14 ∧ A = 0 ∧ B = 1
          · obtain ⟨rfl, rfl, rfl⟩ := hq
            rw [zb_up_s, zb_up_s]
          · rw [zb_up_n hq, zb_up_n hq, stT_n ht]
      rw [ec]
      exact SC.mk (Inv_forget hI)
    · rw [r1, r2, zb_bs, zb_bs]
      simp only [Sum.elim_inr]
      rw [zb_bs]
      simp only []
      rw [wf_up, zb_bs, if_pos (zb_m2k q hq)]
      refine SC.mk (base T' p zT M1 ?_ ?_ ?_)
      · rw [y3 0 0 26 (by simp), f2 0 0 26 (by simp)]; exact mk26
      · intro j i hc
        rw [y2 j i hc, show M2 0 32 = Mk 0 32 from by funext k; exact f2 0 32 k (by simp), k2 j i hc, zb_up_n (by rcases hc with ⟨h1, h2, h3⟩ | ⟨h1, h2, h3⟩ <;> omega)]
        rcases hc with ⟨h1, h2, h3⟩ | ⟨h1, h2, h3⟩
        · exact mE j i (by omega) (by omega)
        · exact mE j i (by omega) (by omega)
      · intro j k hj
        rw [y3 0 j k (by simp; omega), f2 0 j k (by simp; omega)]
        exact mko j k hj
end
