noncomputable def fdR (C : jm_M) (k : Nat) : Int32 := if k = 0 then -9 else (sF_firstFreshlyDown (stT C 4 (wkN k (C 1))) 1).getD 0
section
variable {C M : jm_M}
theorem fdR_at (hc : ctT (C 1)) {k : Nat} (hk : 0 < k) : sF_firstFreshlyDown (stT C 4 (wkN k (C 1))) 1 = some (fdR C k) := by
  obtain ⟨v, e1, -⟩ := F_fresh_ex (C := stT C 4 (wkN k (C 1))) (by rw [stT_n (by omega)]; exact hc) (by rw [stT_s]; exact wkN_ct k hc)
  unfold fdR
  rw [if_neg (by omega), e1]
  rfl
theorem fdR_in (hc : ctT (C 1)) (k : Nat) : fdR C k = -9 ∨ ∃ n, n < 1000 ∧ fdR C k = nI n := by
  by_cases hk : k = 0
  · left
    unfold fdR
    rw [if_pos hk]
  · obtain ⟨v, e1, e2⟩ := F_fresh_ex (C := stT C 4 (wkN k (C 1))) (by rw [stT_n (by omega)]; exact hc) (by rw [stT_s]; exact wkN_ct k hc)
    unfold fdR
    rw [if_neg hk, e1]
    exact e2
theorem fdR_0 : fdR C 0 = -9 := if_pos rfl
def fdV (C : jm_M) (v : Int32) : Prop := ((∀ k, 1 ≤ k → k ≤ 60 → fdR C k = -9) ∧ v = -9) ∨ ∃ m, 1 ≤ m ∧ m ≤ 60 ∧ ¬ fdR C m = -9 ∧ (∀ k, 1 ≤ k → k < m → fdR C k = -9) ∧ v = fdR C m
theorem fdV_un {v v' : Int32} (h : fdV C v) (h' : fdV C v') : v = v' := by
  rcases h with ⟨h1, h2⟩ | ⟨m, m1, m2, m3, m4, m5⟩
  · rcases h' with ⟨g1, g2⟩ | ⟨n, n1, n2, n3, n4, n5⟩
    · rw [h2, g2]
    · exact absurd (h1 n n1 n2) n3
  · rcases h' with ⟨g1, g2⟩ | ⟨n, n1, n2, n3, n4, n5⟩
    · exact absurd (g1 m m1 m2) m3
    · have a : ¬ m < n := fun q => m3 (n4 m m1 q)
      have b : ¬ n < m := fun q => n3 (m4 n n1 q)
      rw [m5, n5, show m = n by omega]
theorem st_first (h : Inv C M) : SC (sW_first C) (sM_first M) := by
  obtain ⟨hw, hr, hd⟩ := h.now
  have h6 := hw.1.p.2
  have z1 := h.zt (t := 1) (by omega) (by omega)
  have zW : ∀ n, ZT (wkN n (C 1)) := fun n => ZT_wkN z1 n hw.1
  -- the class
  have eC : ∃ v T', sF_firstDown C 1 = some (v, stT C 4 T') ∧ ZT T' ∧ fdV C v := by
    unfold sF_firstDown
    rw [F_think (by omega) (h.zt (by omega) (by omega)) z1, zb_bs]
    obtain ⟨e, e1, e2⟩ := zb_ch (f := sF_firstDown_L7 1) (s := (0, stT C 4 (C 1))) (fun k s => s = (nI k, stT C 4 (wkN k (C 1))) ∧ ∀ j, 1 ≤ j → j ≤ k → fdR C j = -9)
      (fun e => (∃ T', e = .inl (stT C 4 T') ∧ ZT T' ∧ fdV C (-9)) ∨ ∃ v T', e = .inr (v, stT C 4 T') ∧ ZT T' ∧ fdV C v) 60 (by omega) ⟨rfl, fun j h1 h2 => by omega⟩ (by
        intro k hk s hs
        obtain ⟨rfl, hj⟩ := hs
        unfold sF_firstDown_L7
        simp only []
        rw [if_neg (show ¬ (60 : Int32) ≤ nI k from zb_nle (a := 60) hk (by omega)), T_weekPasses (by rw [stT_s]; exact wkN_ct k hw.1) true (by simp), zb_bs, stT_s, stT_2]
        have e := fdR_at (C := C) hw.1 (k := k + 1) (by omega)
        have e' : sF_firstFreshlyDown (stT C 4 (wkS true (wkN k (C 1)))) 1 = some (fdR C (k + 1)) := e
        rw [e', zb_bs, nI_1]
        by_cases g : fdR C (k + 1) = -9
        · left
          rw [if_pos g]
          refine ⟨_, rfl, rfl, fun j h1 h2 => ?_⟩
          rcases Nat.lt_or_ge k j with q | q
          · rw [show j = k + 1 by omega]; exact g
          · exact hj j h1 q
        · right
          rw [if_neg g]
          exact ⟨_, rfl, Or.inr ⟨_, _, rfl, zW (k + 1), Or.inr ⟨k + 1, by omega, by omega, g, fun j h1 h2 => hj j h1 (by omega), rfl⟩⟩⟩) (by
        intro s hs
        obtain ⟨rfl, hj⟩ := hs
        unfold sF_firstDown_L7
        simp only []
        rw [if_pos (show (60 : Int32) ≤ nI 60 from zb_yle (Nat.le_refl 60) (by omega))]
        exact ⟨_, rfl, Or.inl ⟨_, rfl, zW 60, Or.inl ⟨hj, rfl⟩⟩⟩)
    rw [e1, zb_bs]
    rcases e2 with ⟨T', rfl, hz, hv⟩ | ⟨v, T', rfl, hz, hv⟩
    · exact ⟨_, T', rfl, hz, hv⟩
    · exact ⟨_, T', rfl, hz, hv⟩
  obtain ⟨v, T', e1, hz, hv⟩ := eC
  obtain ⟨M0, m1, f1, k1⟩ := M_marksDown hw (by omega) hr
  have hr1 := TR_mF hr hw.1 f1 (fun j i => core38)
  obtain ⟨M1, m2, d1⟩ := M_minds M0
  have hr2 := TR_MD hr1 hw.1 d1
  have h17 : M1 0 0 17 = 0 := by
    rw [d1.d, f1 0 0 17 (by simp)]; exact hd
  have eM : ∃ e, jm_loop sM_first_L13 jm_N ((-9), 0, M1) = some e ∧ fdV C e.1 ∧ mF [2, 8, 9] [15] M1 e.2 := by
    refine zb_ch (fun (k : Nat) (s : Int32 × Int32 × jm_M) => ∃ M' : jm_M, s = (fdR C k, nI k, M') ∧ TR (wkN k (C 1)) (M' 0) ∧ mF [2, 8, 9] [15] M1 M' ∧ ∀ j, 1 ≤ j → j < k → fdR C j = -9) _ 60 (by omega) ⟨M1, by rw [fdR_0]; rfl, hr2, mF.rf, fun j h1 h2 => by omega⟩ ?_ ?_
    · intro k hk s hs
      obtain ⟨M', rfl, hr', f', hj⟩ := hs
      unfold sM_first_L13
      simp only []
      rw [if_neg (show ¬ (60 : Int32) ≤ nI k from zb_nle (a := 60) hk (by omega))]
      rcases fdR_in hw.1 k with g | ⟨n, hn, g⟩
      · left
        have hwk := wf_wkN k hw
        obtain ⟨M2, n2, hr2', f2⟩ := M_goesWeek hwk (by omega) hr' true (by rw [f' 0 0 17 (by simp), h17]; simp)
        rw [g, if_neg (by decide), n2, zb_bs]
        have hr3 : TR (wkN (k + 1) (C 1)) (M2 0) := hr2'
        have e := fdR_at (C := C) hw.1 (k := k + 1) (by omega)
        have f3 := f'.tr f2
        have mk : mk38 (C 1) M2 (np (C 1)) := by
          intro a b h1 h2 h3
          rw [f3 0 38 _ (by simp), d1.2.2 0 38 _ (by simp)]
          exact k1 a b h1 h2 h3
        rw [M_firstDown_eq (C := stT C 4 (wkN (k + 1) (C 1))) (T := wkN (k + 1) (C 1)) (M := M2) (by rw [stT_n (by omega)]; exact hw.1) stT_s (wf_wkN (k + 1) hw) (by omega) (by rw [np_wkN, stT_n (by omega)]) hr3 (by rw [stT_n (show ¬ (1 : Nat) = 4 by omega)]; exact mk), e, zb_bs, nI_1]
        refine ⟨_, rfl, M2, rfl, hr3, f3, fun j h1 h2 => ?_⟩
        rcases Nat.lt_or_ge j k with q | q
        · exact hj j h1 q
        · rw [show j = k by omega]; exact g
      · right
        rw [g, if_pos (zb_nd2 (by omega))]
        refine ⟨_, rfl, Or.inr ⟨k, ?_, by omega, by rw [g]; exact zb_m9 (by omega), hj, g.symm⟩, f'⟩
        rcases Nat.eq_zero_or_pos k with q | q
        · subst q
          rw [fdR_0] at g
          exact absurd g.symm (zb_m9 (by omega))
        · exact q
    · intro s hs
      obtain ⟨M', rfl, hr', f', hj⟩ := hs
      unfold sM_first_L13
      simp only []
      rw [if_pos (show (60 : Int32) ≤ nI 60 from zb_yle (Nat.le_refl 60) (by omega))]
      refine ⟨_, rfl, ?_, f'⟩
      by_cases g : fdR C 60 = -9
      · refine Or.inl ⟨fun k h1 h2 => ?_, g⟩
        rcases Nat.lt_or_ge k 60 with q | q
        · exact hj k h1 q
        · rw [show k = 60 by omega]; exact g
      · exact Or.inr ⟨60, by omega, by omega, g, hj, rfl⟩
  obtain ⟨e, n1, n2, n3⟩ := eM
  obtain ⟨M3, n4, s3⟩ := M_forgets d1 n3.goes
  have s0 : sameM M M0 := ⟨fun j i hj => f1 0 j i (fun e => core38 hj e.2), fun i _ => f1 0 32 i (by simp), f1.mono (fun x h => by simp at h ⊢; omega) (fun x h => by simp at h), by rw [f1 0 0 17 (by simp)]; exact hd⟩
  unfold sW_first sM_first
  rw [e1, zb_bs, m1, zb_bs, m2, zb_bs, n1, zb_bs, n4, zb_bs, fdV_un n2 hv]
  exact SC.mk (Inv_same h (sameC_mind h hz) (s0.tr s3))
end
