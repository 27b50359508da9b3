/-! the first two who freshly come down -/
theorem TR_mF {T : jm_T} {M M' : jm_M} {S F : List Nat} (hr : TR T (M 0)) (hc : ctT T) (h : mF S F M M') (h1 : ∀ j i, core j i → ¬ (j ∈ S ∨ (j = 0 ∧ i ∈ F))) : TR T (M' 0) := TR_core hr hc (fun j i hj => h 0 j i (fun e => h1 j i hj e.2))
theorem core38 {j i : Nat} (h : core j i) : ¬ (j ∈ [38] ∨ (j = 0 ∧ i ∈ ([] : List Nat))) := by
  rcases h with ⟨h1, h2, h3⟩ | ⟨h1, h2, h3⟩
  · simp; omega
  · simp; omega
def mk38 (T : jm_T) (M : jm_M) (n : Nat) : Prop := ∀ p q, p < n → p < q → q < np T → M 0 38 (6 * p + q) = if ts_over T p q < 0 then 0 else 1
theorem zb_6 {a b : Nat} : 6 * nI a + nI b = nI (6 * a + b) := by rw [show (6 : Int32) = nI 6 from rfl, pk_mul, nI_add]
theorem M_marksDown {T : jm_T} {M : jm_M} {w : Nat} (hw : wfT w T) (hw2 : w < 900000) (hr : TR T (M 0)) : ∃ M', sM_marksDown M = some M' ∧ mF [38] [] M M' ∧ mk38 T M' (np T) := by
  have h := hw.1.p
  unfold sM_marksDown
  obtain ⟨e, e1, e2⟩ := zb_ch (f := sM_marksDown_L2) (s := (0, M)) (fun p s => ∃ M', s = (nI p, M') ∧ mF [38] [] M M' ∧ mk38 T M' p) (fun e => mF [38] [] M e ∧ mk38 T e (np T)) (np T) (by omega) ⟨M, rfl, mF.rf, fun p q h => by omega⟩ (by
    intro p hp s hs
    obtain ⟨M', rfl, f1, k1⟩ := hs
    left
    have hr1 := TR_mF hr hw.1 f1 (fun j i => core38)
    unfold sM_marksDown_L2
    simp only []
    rw [hr1.1.1, h.1, if_neg (zb_nle hp (by omega))]
    simp only [zb_bs, nI_1]
    obtain ⟨e, e1, e2, e3⟩ := zb_ch (f := sM_marksDown_L14 (nI p, M')) (s := (nI (p + 1), M')) (fun j s => ∃ M'', s = (nI (p + 1 + j), M'') ∧ mF [38] [] M M'' ∧ mk38 T M'' p ∧ ∀ q, p < q → q < p + 1 + j → q < np T → M'' 0 38 (6 * p + q) = if ts_over T p q < 0 then 0 else 1) (fun e => mF [38] [] M e ∧ mk38 T e (p + 1)) (np T - (p + 1)) (by omega) ⟨M', rfl, f1, k1, fun q h1 h2 => by omega⟩ (by
      intro j hj s hs
      obtain ⟨M'', rfl, f1, k1, k2⟩ := hs
      left
      have hr1 := TR_mF hr hw.1 f1 (fun j i => core38)
      unfold sM_marksDown_L14
      simp only []
      rw [hr1.1.1, h.1, if_neg (zb_nle (by omega) (by omega)), M_comesDown hw (by omega) hr1 hp (show p + 1 + j < np T by omega), zb_bs, zb_6]
      have ev : (if (if ts_over T p (p + 1 + j) < 0 then (0 : Int32) else 1) = 0 then some (0 : Int32) else some 1) = some (if ts_over T p (p + 1 + j) < 0 then 0 else 1) := by
        by_cases g : ts_over T p (p + 1 + j) < 0
        · simp [g]
        · simp [g]
      rw [ev, zb_bs, zb_wa (by omega) (by omega), zb_bs, nI_1]
      refine ⟨_, rfl, _, rfl, f1.tr (mF.up (Or.inl (by simp))), ?_, ?_⟩
      · intro a b h1 h2 h3
        rw [zb_up_n (by omega)]
        exact k1 a b h1 h2 h3
      · intro q h1 h2 h3
        by_cases g : q = p + 1 + j
        · subst g; rw [zb_up_s]
        · rw [zb_up_n (by omega)]
          exact k2 q h1 (by omega) h3) (by
      intro s hs
      obtain ⟨M'', rfl, f1, k1, k2⟩ := hs
      have hr1 := TR_mF hr hw.1 f1 (fun j i => core38)
      unfold sM_marksDown_L14
      simp only []
      rw [hr1.1.1, h.1, if_pos (zb_yle (by omega) (by omega))]
      refine ⟨_, rfl, f1, ?_⟩
      intro a b h1 h2 h3
      rcases Nat.lt_or_ge a p with g | g
      · exact k1 a b g h2 h3
      · rw [show a = p by omega] at h2 ⊢
        exact k2 b h2 (by omega) h3)
    rw [e1, zb_bs]
    exact ⟨_, rfl, _, rfl, e2, e3⟩) (by
    intro s hs
    obtain ⟨M', rfl, f1, k1⟩ := hs
    have hr1 := TR_mF hr hw.1 f1 (fun j i => core38)
    unfold sM_marksDown_L2
    simp only []
    rw [hr1.1.1, h.1, if_pos (zb_yle (Nat.le_refl _) (by omega))]
    exact ⟨_, rfl, f1, k1⟩)
  rw [e1, zb_bs]
  exact ⟨_, rfl, e2⟩
theorem F_fresh_in {C : jm_M} (h1 : ctT (C 1)) (h4 : ctT (C 4)) {p : Nat} (hp : p < np (C 1)) : ∃ e, jm_loop (sF_firstFreshlyDown_L14 C 1 (nI p)) jm_N (nI (p + 1)) = some e ∧ (e = .inl () ∨ ∃ k, k < 1000 ∧ e = .inr (.inr (.inr (nI k)))) := by
  have h := h1.p
  refine zb_ch (fun j s => s = nI (p + 1 + j)) _ (np (C 1) - (p + 1)) (by omega) rfl ?_ ?_
  · intro j hj s hs
    subst hs
    unfold sF_firstFreshlyDown_L14
    rw [h.1, if_neg (zb_nle (by omega) (by omega)), T_comesDown h4 (by omega) (by omega), zb_bs, T_comesDown h1 (by omega) (by omega), zb_bs, zb_10]
    by_cases g : ts_over (C 4) p (p + 1 + j) < 0
    · left
      rw [if_pos g, zb_i00, nI_1]
      exact ⟨_, rfl, rfl⟩
    · rw [if_neg g, zb_i10]
      by_cases g2 : ts_over (C 1) p (p + 1 + j) < 0
      · right
        rw [if_pos g2, zb_i00]
        exact ⟨_, rfl, Or.inr ⟨_, by omega, rfl⟩⟩
      · left
        rw [if_neg g2, zb_i10, nI_1]
        exact ⟨_, rfl, rfl⟩
  · intro s hs
    subst hs
    unfold sF_firstFreshlyDown_L14
    rw [h.1, if_pos (zb_yle (by omega) (by omega))]
    exact ⟨_, rfl, Or.inl rfl⟩
theorem F_fresh_ex {C : jm_M} (h1 : ctT (C 1)) (h4 : ctT (C 4)) : ∃ v, sF_firstFreshlyDown C 1 = some v ∧ (v = -9 ∨ ∃ k, k < 1000 ∧ v = nI k) := by
  have h := h1.p
  unfold sF_firstFreshlyDown
  obtain ⟨e, e1, e2⟩ := zb_ch (f := sF_firstFreshlyDown_L2 C 1) (s := 0) (fun p s => s = nI p) (fun e => e = .inl () ∨ ∃ k, k < 1000 ∧ e = .inr (nI k)) (np (C 1)) (by omega) rfl (by
    intro p hp s hs
    subst hs
    unfold sF_firstFreshlyDown_L2
    rw [h.1, if_neg (zb_nle hp (by omega))]
    simp only [zb_bs, nI_1]
    obtain ⟨e, e1, e2⟩ := F_fresh_in h1 h4 hp
    rw [e1, zb_bs]
    rcases e2 with rfl | ⟨k, hk, rfl⟩
    · left
      exact ⟨_, rfl, rfl⟩
    · right
      exact ⟨_, rfl, Or.inr ⟨k, hk, rfl⟩⟩) (by
    intro s hs
    subst hs
    unfold sF_firstFreshlyDown_L2
    rw [h.1, if_pos (zb_yle (by omega) (by omega))]
    exact ⟨_, rfl, Or.inl rfl⟩)
  rw [e1, zb_bs]
  rcases e2 with rfl | ⟨k, hk, rfl⟩
  · exact ⟨_, rfl, Or.inl rfl⟩
  · exact ⟨_, rfl, Or.inr ⟨k, hk, rfl⟩⟩
theorem M_firstDown_eq {C M : jm_M} {T : jm_T} {w : Nat} (h1 : ctT (C 1)) (h4 : C 4 = T) (hw : wfT w T) (hw2 : w < 900000) (hn : np T = np (C 1)) (hr : TR T (M 0)) (hk : mk38 (C 1) M (np (C 1))) : sM_firstDown M = sF_firstFreshlyDown C 1 := by
  have h := h1.p
  subst h4
  unfold sM_firstDown sF_firstFreshlyDown
  have hp0 : M 0 0 13 = nI (np (C 1)) := by rw [hr.1.1, hw.1.p.1, hn]
  rw [zb_alike (f := sM_firstDown_L2 M) (g := sF_firstFreshlyDown_L2 C 1) (fun s => ∃ p, p ≤ np (C 1) ∧ s = nI p) ?_ jm_N 0 ⟨0, by omega, rfl⟩]
  intro s hs
  obtain ⟨p, hp, rfl⟩ := hs
  have inner : p < np (C 1) → jm_loop (sM_firstDown_L14 M (nI p)) jm_N (nI (p + 1)) = jm_loop (sF_firstFreshlyDown_L14 C 1 (nI p)) jm_N (nI (p + 1)) := by
    intro hp
    refine zb_alike (fun s => ∃ q, p < q ∧ q ≤ np (C 1) ∧ s = nI q) ?_ jm_N _ ⟨p + 1, by omega, by omega, rfl⟩
    intro s hs
    obtain ⟨q, hq, hq2, rfl⟩ := hs
    unfold sM_firstDown_L14 sF_firstFreshlyDown_L14
    rw [hp0, h.1]
    rcases Nat.lt_or_ge q (np (C 1)) with g | g
    · rw [if_neg (zb_nle g (by omega)), if_neg (zb_nle g (by omega)), zb_6, zb_rd (by omega) (by omega), zb_bs, hk p q hp hq g, M_comesDown hw (by omega) hr (by omega) (by omega), zb_bs, T_comesDown hw.1 (by omega) (by omega), zb_bs, T_comesDown h1 (by omega) (by omega), zb_bs, zb_10, nI_1]
      by_cases a : ts_over (C 1) p q < 0
      · rw [if_pos a, zb_i00, zb_i00]
        by_cases b : ts_over (C 4) p q < 0
        · rw [if_pos b, zb_i00]
          exact ⟨rfl, fun s' e => ⟨q + 1, by omega, by omega, by injection e with e; injection e with e; exact e.symm⟩⟩
        · rw [if_neg b, zb_i10]
          exact ⟨rfl, fun s' e => by injection e with e; injection e⟩
      · rw [if_neg a, zb_i10, zb_i10]
        by_cases b : ts_over (C 4) p q < 0
        · rw [if_pos b, zb_i00]
          exact ⟨rfl, fun s' e => ⟨q + 1, by omega, by omega, by injection e with e; injection e with e; exact e.symm⟩⟩
        · rw [if_neg b, zb_i10]
          exact ⟨rfl, fun s' e => ⟨q + 1, by omega, by omega, by injection e with e; injection e with e; exact e.symm⟩⟩
    · rw [if_pos (zb_yle g (by omega)), if_pos (zb_yle g (by omega))]
      exact ⟨rfl, fun s' e => by injection e with e; injection e⟩
  unfold sM_firstDown_L2 sF_firstFreshlyDown_L2
  rw [hp0, h.1]
  rcases Nat.lt_or_ge p (np (C 1)) with g | g
  · rw [if_neg (zb_nle g (by omega)), if_neg (zb_nle g (by omega))]
    simp only [zb_bs, nI_1]
    rw [inner g]
    refine ⟨rfl, fun s' e => ⟨p + 1, by omega, ?_⟩⟩
    obtain ⟨v, e1, e2⟩ := F_fresh_in h1 hw.1 g
    rw [e1, zb_bs] at e
    rcases e2 with rfl | ⟨k, hk, rfl⟩
    · injection e with e; injection e with e; exact e.symm
    · injection e with e; injection e
  · rw [if_pos (zb_yle g (by omega)), if_pos (zb_yle g (by omega))]
    exact ⟨rfl, fun s' e => by injection e with e; injection e⟩
