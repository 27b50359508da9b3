/-! call by call: step, back, image, restore, row, clear, judge, feed -/
section
variable {C M : jm_M}
/-- other cells and fields of the two that Inv looks at by themselves -/
theorem Inv_oth {C C' M M' : jm_M} (h : Inv C M) (hC : ∀ t, 1 ≤ t → t ≤ 13 → C' t = C t) (hC3 : C' 0 0 3 = C 0 0 3) (hC12 : C' 0 12 = C 0 12) (hC17 : C' 17 2 0 = C 17 2 0) (hM : mF [19, 41] [26, 41] M M')
    (hl : ∃ l, l ≤ 96 ∧ C' 14 0 1 = nI l ∧ M' 0 0 26 = nI l ∧ ∀ i, i < l → C' 14 1 i = M' 0 19 i ∧ zb_in (C' 14 1 i) 255) (hrw : ∃ r, r ≤ 12 ∧ C' 0 0 10 = nI r ∧ M' 0 0 41 = nI r ∧ ∀ i, i < r → C' 0 10 i = M' 0 41 i) : Inv C' M' := by
  obtain ⟨⟨i1, i2, i3⟩, im, ⟨m, L, f, p1, p2, p3, p4, p5, p6, p7, p8⟩, -, -, rf, zt, z17⟩ := h
  have f0 : ∀ s, ¬ s ∈ [26, 41] → M' 0 0 s = M 0 0 s := fun s hs => hM 0 0 s (fun e => by
    obtain ⟨-, e | e⟩ := e
    · simp at e
    · exact hs e.2)
  have cl : ∀ j, ¬ j = 0 → ¬ j = 19 → ¬ j = 41 → M' 0 j = M 0 j := fun j h1 h2 h3 => by
    funext k
    exact hM 0 j k (fun e => by
      obtain ⟨-, e | e⟩ := e
      · simp at e; omega
      · omega)
  refine ⟨⟨?_, ?_, ?_⟩, ?_, ⟨m, L, f, p1, p2, p3, ?_, ?_, ?_, ?_, ?_⟩, hl, hrw, ?_, ?_, by rw [hC17]; exact z17⟩
  · rw [hC 1 (by omega) (by omega)]; exact i1
  · rw [hC 1 (by omega) (by omega)]
    refine TR_core i2 i1.1 (fun j i hc => hM 0 j i (fun e => ?_))
    obtain ⟨-, e⟩ := e
    simp at e
    rcases hc with ⟨h1, h2, h3⟩ | ⟨h1, h2, h3⟩ <;> omega
  · rw [f0 17 (by decide)]; exact i3
  · rw [hC3, hC 2 (by omega) (by omega), f0 32 (by decide), cl 32 (by omega) (by omega) (by omega)]; exact im
  · rw [hC 13 (by omega) (by omega)]; exact p4
  · rw [hC 13 (by omega) (by omega)]; exact p5
  · rw [f0 36 (by decide)]; exact p6
  · rw [f0 35 (by decide)]; exact p7
  · intro i hi
    rw [hC _ (by omega) (by omega), cl 32 (by omega) (by omega) (by omega)]; exact p8 i hi
  · rw [hC12, cl 1 (by omega) (by omega) (by omega)]; exact rf
  · intro t h1 h2
    rw [hC t h1 (by omega)]; exact zt t h1 h2
theorem st_row (h : Inv C M) (x : Int32) : SC (sW_row C x) (sM_row M x) := by
  obtain ⟨r, r1, r2, r3, r4⟩ := h.2.2.2.2.1
  unfold sW_row sM_row
  rw [M_bound]
  simp only [zb_bs]
  by_cases h1 : (-99 : Int32) ≤ x
  · by_cases h2 : x ≤ 99
    · have h2' : ¬ (99 : Int32) < x := by rw [Int32.lt_iff_toInt_lt]; rw [Int32.le_iff_toInt_le] at h2; omega
      rw [if_pos h1, if_neg h2', if_pos h1, if_pos h2, if_pos rfl, r2, r3]
      by_cases h3 : r = 12
      · subst h3
        rw [if_neg (by decide), if_pos (by decide), zb_bs, if_neg (by decide), W_refuse C (k := 6) rfl (by omega), M_no M (k := 6) rfl (by omega)]
        simp only [zb_bs]
        exact SC.mk (Inv_ref h (by omega))
      · rw [if_pos (show nI r < (12 : Int32) from by rw [show (12 : Int32) = nI 12 from rfl, zb_lt (by omega) (by omega)]; omega), if_neg (show ¬ nI r = (12 : Int32) from by rw [show (12 : Int32) = nI 12 from rfl, zb_eq (by omega) (by omega)]; exact h3), zb_bs, if_pos rfl, zb_wa (by omega) (by omega), zb_bs, zb_wa (by omega) (by omega), zb_bs]
        unfold jm_wf
        rw [zb_bs, zb_bs, zb_up_s, zb_up_s, zb_up_n (by omega), zb_up_n (by omega), r2, r3, nI_1]
        refine SC.mk (Inv_oth h ?_ ?_ ?_ (by repeat rw [zb_up_n (by omega)]) ((mF.up (Or.inl (by decide))).tr (mF.up (Or.inr ⟨rfl, by decide⟩))) ?_ ?_)
        · intro t h4 h5
          funext a b
          rw [zb_up_n (by omega), zb_up_n (by omega)]
        · rw [zb_up_n (by omega), zb_up_n (by omega)]
        · funext b
          rw [zb_up_n (by omega), zb_up_n (by omega)]
        · obtain ⟨l, l1, l2, l3, l4⟩ := h.2.2.2.1
          refine ⟨l, l1, ?_, ?_, ?_⟩
          · rw [zb_up_n (by omega), zb_up_n (by omega)]; exact l2
          · rw [zb_up_n (by omega), zb_up_n (by omega)]; exact l3
          · intro i hi
            rw [zb_up_n (by omega), zb_up_n (by omega), zb_up_n (by omega), zb_up_n (by omega)]; exact l4 i hi
        · refine ⟨r + 1, by omega, zb_up_s, zb_up_s, ?_⟩
          intro i hi
          rw [show jm_up (jm_up C 0 10 r x) 0 0 10 (nI (r + 1)) 0 10 i = jm_up C 0 10 r x 0 10 i from zb_up_n (by omega), show jm_up (jm_up M 0 41 r x) 0 0 41 (nI (r + 1)) 0 41 i = jm_up M 0 41 r x 0 41 i from zb_up_n (by omega)]
          by_cases e : i = r
          · subst e; rw [zb_up_s, zb_up_s]
          · rw [zb_up_n (by omega), zb_up_n (by omega)]; exact r4 i (by omega)
    · have h2' : (99 : Int32) < x := by rw [Int32.lt_iff_toInt_lt]; rw [Int32.le_iff_toInt_le] at h2; omega
      rw [if_pos h1, if_pos h2', if_pos h1, if_neg h2, if_neg (by decide), zb_bs, if_neg (by decide), W_refuse C (k := 6) rfl (by omega), M_no M (k := 6) rfl (by omega)]
      simp only [zb_bs]
      exact SC.mk (Inv_ref h (by omega))
  · rw [if_neg h1, if_neg h1, if_neg (by decide), zb_bs, if_neg (by decide), W_refuse C (k := 4) rfl (by omega), M_no M (k := 4) rfl (by omega)]
    simp only [zb_bs]
    exact SC.mk (Inv_ref h (by omega))
/-- the row is empty then -/
theorem Inv_row0 (h : Inv C M) : Inv (jm_up C 0 0 10 0) (jm_up M 0 0 41 0) := by
  refine Inv_oth h ?_ ?_ ?_ (by repeat rw [zb_up_n (by omega)]) (mF.up (Or.inr ⟨rfl, by decide⟩)) ?_ ?_
  · intro t h4 h5
    funext a b
    rw [zb_up_n (by omega)]
  · rw [zb_up_n (by omega)]
  · funext b
    rw [zb_up_n (by omega)]
  · obtain ⟨l, l1, l2, l3, l4⟩ := h.2.2.2.1
    refine ⟨l, l1, ?_, ?_, ?_⟩
    · rw [zb_up_n (by omega)]; exact l2
    · rw [zb_up_n (by omega)]; exact l3
    · intro i hi
      rw [zb_up_n (by omega), zb_up_n (by omega)]; exact l4 i hi
  · exact ⟨0, by omega, zb_up_s, zb_up_s, fun i hi => by omega⟩
theorem st_clear (h : Inv C M) : SC (sW_clear C) (sM_clear M) := by
  obtain ⟨r, r1, r2, r3, r4⟩ := h.2.2.2.2.1
  unfold sW_clear sM_clear jm_wf
  simp only [zb_bs]
  rw [r2, r3]
  exact SC.mk (Inv_row0 h)
theorem st_judge (h : Inv C M) : SC (sW_judge C) (sM_judge M) := by
  obtain ⟨hw, hr, hd⟩ := h.now
  obtain ⟨r, r1, r2, r3, r4⟩ := h.2.2.2.2.1
  have h6 := hw.1.p.2
  obtain ⟨o, ho⟩ := zb_ff_ex (fun i => ¬ (i < np (C 1) ∧ C 1 2 i = C 0 10 i)) r
  have hC : sW_judge C = some (zb_o o, jm_up C 0 0 10 0) := by
    unfold sW_judge jm_wf
    rw [zb_bs, r2]
    -- from the end: what has been found so far is the first of the rest
    have key : ∀ k, k ≤ r → ∃ q : Option Nat, (match q with | some j => k ≤ j ∧ j < r ∧ ¬ (j < np (C 1) ∧ C 1 2 j = C 0 10 j) ∧ ∀ i, k ≤ i → i < j → (i < np (C 1) ∧ C 1 2 i = C 0 10 i) | none => ∀ i, k ≤ i → i < r → (i < np (C 1) ∧ C 1 2 i = C 0 10 i)) ∧ ∀ N, jm_loop (sW_judge_L10 C) (N + (r - k)) (-9, nI r - 1) = jm_loop (sW_judge_L10 C) N (zb_o q, nI k - 1) := by
      intro k hk
      obtain ⟨d, hd2⟩ : ∃ d, d = r - k := ⟨_, rfl⟩
      induction d generalizing k with
      | zero =>
        have : k = r := by omega
        subst this
        exact ⟨none, fun i h1 h2 => by omega, fun N => by rw [Nat.sub_self]; rfl⟩
      | succ d ih =>
        obtain ⟨q, hq, hN⟩ := ih (k + 1) (by omega) (by omega)
        have stp : ∀ v, sW_judge_L10 C (v, nI (k + 1) - 1) = some (.inl (if k < np (C 1) ∧ C 1 2 k = C 0 10 k then v else nI k, nI k - 1)) := by
          intro v
          unfold sW_judge_L10
          have e1 : nI (k + 1) - 1 = nI k := by rw [zb_sub1 (by omega), Nat.add_sub_cancel]
          have em : nI k + (-1) = nI k - 1 := (Int32.sub_eq_add_neg _ _).symm
          simp only []
          rw [e1, if_neg (zb_nd (by omega)), T_hasPerson_x hw.1]
          simp only [zb_bs]
          by_cases h1 : k < np (C 1)
          · rw [if_neg (zb_rng h1 (by omega)), zb_i10, zb_rd (by omega) (by omega), zb_rd (by omega) (by omega)]
            simp only [zb_bs]
            by_cases h2 : C 1 2 k = C 0 10 k
            · rw [if_pos h2, if_pos ⟨h1, h2⟩, em]
            · rw [if_neg h2, if_neg (fun e => h2 e.2), em]
          · rw [if_pos (Or.inr (zb_yle (by omega) (by omega))), zb_i00, if_neg (fun e => h1 e.1), em]
        by_cases hg : k < np (C 1) ∧ C 1 2 k = C 0 10 k
        · refine ⟨q, ?_, fun N => ?_⟩
          · cases q with
            | none =>
              intro i h1 h2
              by_cases e : i = k
              · subst e; exact hg
              · exact hq i (by omega) h2
            | some j =>
              obtain ⟨q1, q2, q3, q4⟩ := hq
              refine ⟨by omega, q2, q3, fun i h1 h2 => ?_⟩
              by_cases e : i = k
              · subst e; exact hg
              · exact q4 i (by omega) h2
          · rw [show N + (r - k) = (N + 1) + (r - (k + 1)) by omega, hN (N + 1), jm_loop, stp, if_pos hg]
        · refine ⟨some k, ⟨Nat.le_refl _, by omega, hg, fun i h1 h2 => by omega⟩, fun N => ?_⟩
          rw [show N + (r - k) = (N + 1) + (r - (k + 1)) by omega, hN (N + 1), jm_loop, stp, if_neg hg]
          rfl
    obtain ⟨q, hq, hN⟩ := key 0 (by omega)
    have eq : q = o := by
      refine zb_ff_un (P := fun i => ¬ (i < np (C 1) ∧ C 1 2 i = C 0 10 i)) (n := r) ?_ ho
      cases q with
      | none => exact fun j hj => fun e => e (hq j (by omega) hj)
      | some j =>
        obtain ⟨q1, q2, q3, q4⟩ := hq
        exact ⟨q2, q3, fun i hi e => e (q4 i (by omega) hi)⟩
    have hl : jm_loop (sW_judge_L10 C) jm_N (-9, nI r - 1) = some (zb_o o) := by
      rw [jm_N_eq, show 1000000 = (1000000 - r) + (r - 0) by omega, hN, show 1000000 - r = (999999 - r) + 1 by omega, jm_loop]
      have : sW_judge_L10 C (zb_o q, nI 0 - 1) = some (.inr (zb_o q)) := by
        unfold sW_judge_L10
        simp only []
        rw [if_pos (by decide)]
      rw [this, eq]
    rw [hl]
    simp only [zb_bs]
  have hM : sM_judge M = some (zb_o o, jm_up M 0 0 41 0) := by
    unfold sM_judge jm_wf
    rw [zb_bs, r3, zb_bs]
    have hr' : TR (C 1) (jm_up M 0 0 41 0 0) := TR_core hr hw.1 (fun j i hc => zb_up_n (by rcases hc with ⟨h1, h2, h3⟩ | ⟨h1, h2, h3⟩ <;> omega))
    have stp : ∀ k, k < r → sM_judge_L12 (nI r) (jm_up M 0 0 41 0) (nI k) = if k < np (C 1) ∧ C 1 2 k = C 0 10 k then some (.inl (nI (k + 1))) else some (.inr (.inr (nI k, jm_up M 0 0 41 0))) := by
      intro k hk
      unfold sM_judge_L12
      rw [if_neg (zb_nle hk (by omega)), M_isPerson_x hw.1 hr']
      simp only [zb_bs]
      by_cases h1 : k < np (C 1)
      · rw [if_neg (zb_rng h1 (by omega)), zb_i10, zb_rd (by omega) (by omega), zb_rd (by omega) (by omega), zb_up_n (by omega), zb_up_n (by omega), (hr.2.1 k h1).1, ← r4 k hk]
        simp only [zb_bs, nI_1]
        by_cases h2 : C 1 2 k = C 0 10 k
        · rw [if_pos h2, if_pos ⟨h1, h2⟩]
        · rw [if_neg h2, if_neg (fun e => h2 e.2)]
      · rw [if_pos (Or.inr (zb_yle (by omega) (by omega))), zb_i00, if_neg (fun e => h1 e.1)]
    cases o with
    | none =>
      refine zb_forB (fun k => nI k) (.inl ()) r rfl (fun k hk => ?_) ?_ (by omega) rfl
      · rw [stp k hk, if_pos (Decidable.byContradiction (fun e => ho k hk e))]
      · unfold sM_judge_L12
        rw [if_pos (zb_yle (Nat.le_refl _) (by omega))]
    | some j =>
      obtain ⟨o1, o2, o3⟩ := ho
      refine zb_forB (fun k => nI k) (.inr (nI j, jm_up M 0 0 41 0)) j rfl (fun k hk => ?_) ?_ (by omega) rfl
      · rw [stp k (by omega), if_pos (Decidable.byContradiction (fun e => o3 k hk e))]
      · rw [stp j o1, if_neg o2]
  rw [hC, hM]
  exact SC.mk (Inv_row0 h)
theorem st_feed (h : Inv C M) (x : Int32) : SC (sW_feed C x) (sM_feed M x) := by
  obtain ⟨l, l1, l2, l3, l4⟩ := h.2.2.2.1
  unfold sW_feed sM_feed
  rw [M_bound]
  simp only [zb_bs]
  by_cases h1 : (0 : Int32) ≤ x
  · by_cases h2 : x ≤ 255
    · have h2' : ¬ (255 : Int32) < x := by rw [Int32.lt_iff_toInt_lt]; rw [Int32.le_iff_toInt_le] at h2; omega
      obtain ⟨n, hn, rfl⟩ := zb_upto (n := 255) (by omega) h1 h2
      rw [if_pos h1, if_neg h2', if_pos h1, if_pos h2, if_pos rfl, l2, l3]
      by_cases h3 : l = 96
      · subst h3
        rw [if_neg (by decide), if_pos (by decide), zb_bs, if_neg (by decide), W_refuse C (k := 6) rfl (by omega), M_no M (k := 6) rfl (by omega)]
        simp only [zb_bs]
        exact SC.mk (Inv_ref h (by omega))
      · have hlt : l < 96 := by omega
        unfold sS_addLetter
        rw [if_pos (show nI l < (96 : Int32) from by rw [show (96 : Int32) = nI 96 from rfl, zb_lt (by omega) (by omega)]; omega), if_neg (show ¬ nI l = (96 : Int32) from by rw [show (96 : Int32) = nI 96 from rfl, zb_eq (by omega) (by omega)]; exact h3), zb_bs, if_pos rfl, l2, if_neg (show ¬ (96 : Int32) ≤ nI l from zb_nle (a := 96) hlt (by omega)), zb_wa (by omega) (by omega), zb_bs, zb_wa (by omega) (by omega), zb_bs]
        unfold jm_wf
        simp only [zb_bs]
        rw [zb_up_s, zb_up_s, zb_up_n (by omega), zb_up_n (by omega), l2, l3, nI_1]
        refine SC.mk (Inv_oth h ?_ ?_ ?_ (by repeat rw [zb_up_n (by omega)]) ((mF.up (Or.inl (by decide))).tr (mF.up (Or.inr ⟨rfl, by decide⟩))) ?_ ?_)
        · intro t h4 h5
          funext a b
          rw [zb_up_n (by omega), zb_up_n (by omega)]
        · rw [zb_up_n (by omega), zb_up_n (by omega)]
        · funext b
          rw [zb_up_n (by omega), zb_up_n (by omega)]
        · refine ⟨l + 1, by omega, zb_up_s, zb_up_s, ?_⟩
          intro i hi
          rw [show jm_up (jm_up C 14 1 l (nI n)) 14 0 1 (nI (l + 1)) 14 1 i = jm_up C 14 1 l (nI n) 14 1 i from zb_up_n (by omega), show jm_up (jm_up M 0 19 l (nI n)) 0 0 26 (nI (l + 1)) 0 19 i = jm_up M 0 19 l (nI n) 0 19 i from zb_up_n (by omega)]
          by_cases e : i = l
          · subst e; rw [zb_up_s, zb_up_s]; exact ⟨rfl, n, hn, rfl⟩
          · rw [zb_up_n (by omega), zb_up_n (by omega)]; exact l4 i (by omega)
        · obtain ⟨r, r1, r2, r3, r4⟩ := h.2.2.2.2.1
          refine ⟨r, r1, ?_, ?_, ?_⟩
          · rw [zb_up_n (by omega), zb_up_n (by omega)]; exact r2
          · rw [zb_up_n (by omega), zb_up_n (by omega)]; exact r3
          · intro i hi
            rw [zb_up_n (by omega), zb_up_n (by omega), zb_up_n (by omega), zb_up_n (by omega)]; exact r4 i hi
    · have h2' : (255 : Int32) < x := by rw [Int32.lt_iff_toInt_lt]; rw [Int32.le_iff_toInt_le] at h2; omega
      rw [if_pos h1, if_pos h2', if_pos h1, if_neg h2, if_neg (by decide), zb_bs, if_neg (by decide), W_refuse C (k := 6) rfl (by omega), M_no M (k := 6) rfl (by omega)]
      simp only [zb_bs]
      exact SC.mk (Inv_ref h (by omega))
  · rw [if_neg h1, if_neg h1, if_neg (by decide), zb_bs, if_neg (by decide), W_refuse C (k := 4) rfl (by omega), M_no M (k := 4) rfl (by omega)]
    simp only [zb_bs]
    exact SC.mk (Inv_ref h (by omega))
end
