section
variable {C M : jm_M}
theorem M_drawIn {T : jm_T} {M : jm_M} {w : Nat} (hw : wfT w T) (hr : TR T (M 0)) (s : Int32) (hs : ¬ np T = 0 → M 0 0 43 = s) : ∃ M', jm_loop sM_lots_L77 jm_N (0, M) = some M' ∧ TR (drS T s (nb T)).2 (M' 0) ∧ mF [8] [43] M M' ∧ (¬ np T = 0 → M' 0 0 43 = (drS T s (nb T)).1) := by
  have h := hw.1.b
  have h6 := hw.1.p
  refine zb_ch (fun (k : Nat) (u : Int32 × jm_M) => ∃ M' : jm_M, u = (nI k, M') ∧ TR (drS T s k).2 (M' 0) ∧ mF [8] [43] M M' ∧ (¬ np T = 0 → M' 0 0 43 = (drS T s k).1)) _ (nb T) (by omega) ⟨M, rfl, hr, mF.rf, hs⟩ ?_ ?_
  · intro k hk u hu
    obtain ⟨M', rfl, r1, f1, s1⟩ := hu
    left
    have e : drS T s (k + 1) = drF (np T) k (drS T s k) := rfl
    rw [e]
    have e0 := drS_j T s k 0 (by omega)
    generalize drS T s k = u at e0 r1 s1
    unfold sM_lots_L77
    simp only []
    rw [r1.1.2.1, e0, h.1, if_neg (zb_nle hk (by omega)), r1.1.1, e0, h6.1]
    by_cases g : np T = 0
    · rw [g, if_pos (by decide), zb_bs, zb_wa (by omega) (by omega), zb_bs, nI_1]
      refine ⟨_, rfl, _, rfl, ?_, f1.tr (mF.up (Or.inl (by simp))), fun q => absurd rfl q⟩
      exact TR_upJ r1 (by omega)
    · have g0 : ¬ nI (np T) = 0 := by rw [← nI_0, zb_eq (by omega) (by omega)]; exact g
      rw [if_neg g0]
      unfold sM_draw
      rw [wf_up, zb_bs, zb_up_s, s1 g]
      have ed := kd_at (n := np T) (by omega) h6.2 (sdN u.1)
      have ed2 : ((jm_dv (u.1 * 1103515245 + 12345 &&& 2147483647) 65536).bind fun v2 => (jm_rm v2 (nI (np T))).bind fun v3 => some (v3, jm_up M' 0 0 43 (u.1 * 1103515245 + 12345))) = some (kd (np T) (sdN u.1), jm_up M' 0 0 43 (sdN u.1)) := by
        have e1 : ((jm_dv (u.1 * 1103515245 + 12345 &&& 2147483647) 65536).bind fun v2 => (jm_rm v2 (nI (np T))).bind fun v3 => some v3) = some (kd (np T) (sdN u.1)) := ed
        cases q : jm_dv (u.1 * 1103515245 + 12345 &&& 2147483647) 65536 with
        | none => rw [q] at e1; cases e1
        | some v2 =>
          rw [q, zb_bs] at e1
          cases q2 : jm_rm v2 (nI (np T)) with
          | none => rw [q2] at e1; cases e1
          | some v3 =>
            rw [q2, zb_bs] at e1
            injection e1 with e1
            rw [zb_bs, q2, zb_bs, e1]
            rfl
      rw [ed2, zb_bs, zb_bs, zb_wa (by omega) (by omega), zb_bs, nI_1]
      refine ⟨_, rfl, _, rfl, ?_, (f1.tr (mF.up (Or.inr ⟨rfl, by simp⟩))).tr (mF.up (Or.inl (by simp))), fun _ => ?_⟩
      · have r2 : TR u.2 (jm_up M' 0 0 43 (sdN u.1) 0) := TR_core r1 (ct_j hw.1 (by rw [e0]) (by rw [e0]) (by rw [e0])) (fun j i hj => zb_up_n (by
          rcases hj with ⟨h1, h2, h3⟩ | ⟨h1, h2, h3⟩ <;> omega))
        exact TR_upJ r2 (by omega)
      · rw [zb_up_n (by omega)]
        show jm_up M' 0 0 43 (sdN u.1) 0 0 43 = sdN u.1
        generalize sdN u.1 = v
        exact zb_up_s
  · intro u hu
    obtain ⟨M', rfl, r1, f1, s1⟩ := hu
    unfold sM_lots_L77
    simp only []
    rw [r1.1.2.1, drS_j T s _ 0 (by omega), h.1, if_pos (zb_yle (Nat.le_refl _) (by omega))]
    exact ⟨_, rfl, r1, f1, s1⟩
theorem M_lotsLoop (h : Inv C M) (s x : Int32) {n : Nat} (hn : n < 1000) : ∃ e, jm_loop (sM_lots_L50 (nI n) x) jm_N (0, 0, jm_up M 0 0 43 s) = some e ∧ e.1 = (if x = 0 then (ltS (C 1) s n).2.1 else (ltS (C 1) s n).2.2) ∧ sameM M e.2 := by
  obtain ⟨hw, hr, hd⟩ := h.now
  have s0 : sameM M (jm_up M 0 0 43 s) := ⟨fun j i hj => zb_up_n (by rcases hj with ⟨h1, h2, h3⟩ | ⟨h1, h2, h3⟩ <;> omega), fun i _ => zb_up_n (by omega), mF.up (Or.inr ⟨rfl, by simp⟩), by rw [zb_up_n (by omega)]; exact hd⟩
  refine zb_ch (fun (k : Nat) (u : Int32 × Int32 × jm_M) => ∃ M' : jm_M, u = ((if x = 0 then (ltS (C 1) s k).2.1 else (ltS (C 1) s k).2.2), nI k, M') ∧ sameM M M' ∧ (¬ np (C 1) = 0 → M' 0 0 43 = (ltS (C 1) s k).1)) _ n (by omega) ⟨_, by
    rw [show ltS (C 1) s 0 = (s, 0, 0) from rfl]
    simp only [ite_self]
    rfl, s0, fun _ => zb_up_s⟩ ?_ ?_
  · intro k hk u hu
    obtain ⟨M', rfl, sm, h43⟩ := hu
    left
    have hr' := TR_same hr hw.1 sm
    have hd' := sm.2.2.2
    obtain ⟨N1, n1, d1⟩ := M_minds M'
    have hrn := TR_MD hr' hw.1 d1
    obtain ⟨N2, n2, r2, f2, h2⟩ := M_drawIn hw hrn (ltS (C 1) s k).1 (fun g => by rw [d1.2.2 0 0 43 (by simp)]; exact h43 g)
    have wd := wf_drS hw (ltS (C 1) s k).1 (nb (C 1))
    have wn := wf_wkN 8 wd
    obtain ⟨N3, n3, r3, f3⟩ := M_goes wd (by omega) r2 (n := 8) (by rw [f2 0 0 17 (by simp), d1.d]; exact hd')
    obtain ⟨N4, n4, s4, k4⟩ := M_forgets3 d1 ((f2.mono (fun x h => by simp at h ⊢; omega) (fun x h => by simp at h ⊢; omega)).tr f3.goes)
    have hn3 : ¬ np (C 1) = 0 → N4 0 0 43 = (ltS (C 1) s (k + 1)).1 := fun g => by
      rw [k4, f3 0 0 43 (by simp), h2 g]
      rfl
    have e1 : (ltS (C 1) s (k + 1)).2.1 = (ltS (C 1) s k).2.1 + (ts_allRead (ltT (C 1) (ltS (C 1) s k).1) - ts_allRead (C 1)) := rfl
    have e2 : (ltS (C 1) s (k + 1)).2.2 = (ltS (C 1) s k).2.2 + ts_twos (ltT (C 1) (ltS (C 1) s k).1) := rfl
    have n3' : sM_goes N2 8 = some N3 := n3
    unfold sM_lots_L50
    simp only []
    rw [if_neg (zb_nle hk (by omega)), M_allRead hw (by omega) hr', e1, e2]
    by_cases g : x = 0
    · rw [if_pos g, if_pos g, if_pos g, zb_bs, zb_bs, n1, zb_bs, n2, zb_bs, n3', zb_bs, if_pos g, M_allRead wn (by omega) r3, zb_bs, zb_bs, zb_bs, n4, zb_bs, nI_1]
      exact ⟨_, rfl, N4, rfl, sm.tr s4, hn3⟩
    · rw [if_neg g, if_neg g, if_neg g, zb_bs, n1, zb_bs, n2, zb_bs, n3', zb_bs, if_neg g, M_manyDown wn (by omega) r3, zb_bs, zb_bs, zb_bs, n4, zb_bs, nI_1, Int32.sub_zero]
      exact ⟨_, rfl, N4, rfl, sm.tr s4, hn3⟩
  · intro u hu
    obtain ⟨M', rfl, sm, h43⟩ := hu
    unfold sM_lots_L50
    simp only []
    rw [if_pos (zb_yle (Nat.le_refl _) (by omega))]
    exact ⟨_, rfl, rfl, sm⟩
theorem st_lots (h : Inv C M) (x s y : Int32) : SC (sW_lots C x s y) (sM_lots M x s y) := by
  obtain ⟨hw, hr, hd⟩ := h.now
  unfold sW_lots sM_lots
  rw [M_bound, W_neither, M_isIn01]
  simp only [zb_bs]
  by_cases h3 : 1 ≤ x
  · by_cases h4 : x ≤ 20
    · obtain ⟨n, hn, rfl⟩ := zb_upto (n := 20) (x := x) (by omega) (by rw [Int32.le_iff_toInt_le] at h3 ⊢; have : (1 : Int32).toInt = 1 := rfl; have : (0 : Int32).toInt = 0 := rfl; omega) h4
      rw [if_pos h3, if_pos h4, if_pos h3, if_pos h4, if_pos rfl]
      by_cases h5 : y = 0 ∨ y = 1
      · rw [if_pos h5, if_pos h5, zb_i00, zb_i10, zb_bs, if_pos rfl]
        obtain ⟨C', c1, c2, c3, c4, c5⟩ := F_drawSprings h s (n := n) (by omega)
        obtain ⟨e, m1, m2, m3⟩ := M_lotsLoop h s y (n := n) (by omega)
        have hI := Inv_same h (sameC_415 h c2 c3) m3
        rw [c1, zb_bs, wf_up, zb_bs, m1, zb_bs, m2, c4, c5]
        by_cases g : y = 0
        · rw [if_pos g, if_pos g]
          exact SC.mk hI
        · rw [if_neg g, if_neg g]
          exact SC.mk hI
      · rw [if_neg h5, if_neg h5, zb_i10, zb_i00, zb_bs, if_neg (by decide), W_refuse C (k := 2) rfl (by omega), M_no M (k := 2) rfl (by omega)]
        simp only [zb_bs]
        exact SC.mk (Inv_ref h (by omega))
    · rw [if_pos h3, if_neg h4, if_pos h3, if_neg h4, if_neg (by decide), zb_bs, if_neg (by decide), W_refuse C (k := 6) rfl (by omega), M_no M (k := 6) rfl (by omega)]
      simp only [zb_bs]
      exact SC.mk (Inv_ref h (by omega))
  · rw [if_neg h3, if_neg h3, if_neg (by decide), zb_bs, if_neg (by decide), W_refuse C (k := 4) rfl (by omega), M_no M (k := 4) rfl (by omega)]
    simp only [zb_bs]
    exact SC.mk (Inv_ref h (by omega))
end
