theorem M_forgets2 {M M1 M2 : jm_M} (h : MD M M1) (h2 : mF [2, 3, 4, 5, 6, 7, 8, 9, 10, 11, 12, 13, 38, 39, 40, 43] [13, 14, 15, 16, 17, 43] M1 M2) : ∃ M3, sM_forgets M2 = some M3 ∧ sameM M M3 ∧ (∀ j, 35 ≤ j → M3 0 j = M2 0 j) := by
  obtain ⟨M3, e, s3⟩ := M_forgets h h2
  obtain ⟨M4, e4, h3, h4⟩ := M_backAll (M := M2) (n := 2) (by omega)
  refine ⟨M3, e, s3, ?_⟩
  unfold sM_forgets jm_wz at e
  rw [show (2 : Int32) = nI 2 from rfl, e4, zb_bs, if_pos (Or.inl rfl), zb_bs] at e
  injection e with e
  subst e
  intro j hj
  funext k
  rw [zb_up_n (by omega), h4 0 j k (by
    intro e
    obtain ⟨-, e | e⟩ := e
    · simp at e; omega
    · omega)]
theorem M_findEnds {T : jm_T} {M : jm_M} {p q n : Nat} (hw : wfT 999 T) (hr : TR T (M 0)) (hd : M 0 0 17 = 0) (hp : p < np T) (hq : q < np T) (hn : n < 1000) : ∃ M', sM_findEnds M (nI p) (nI q) (nI n) = some M' ∧ sameM M M' ∧ ∀ k, k < 4 → M' 0 43 (2 * k) = twA T p q n k ∧ M' 0 43 (2 * k + 1) = twB T p q n k := by
  unfold sM_findEnds
  obtain ⟨e, e1, e2⟩ := zb_ch (f := sM_findEnds_L3 (nI p) (nI q) (nI n)) (s := (0, M)) (fun (k : Nat) (s : Int32 × jm_M) => ∃ M' : jm_M, s = (nI k, M') ∧ sameM M M' ∧ ∀ j, j < k → M' 0 43 (2 * j) = twA T p q n j ∧ M' 0 43 (2 * j + 1) = twB T p q n j) (fun e => sameM M e ∧ ∀ k, k < 4 → e 0 43 (2 * k) = twA T p q n k ∧ e 0 43 (2 * k + 1) = twB T p q n k) 4 (by omega) ⟨M, rfl, sameM.rf hd, fun j h => by omega⟩ (by
    intro k hk s hs
    obtain ⟨M', rfl, sm, hj⟩ := hs
    left
    have hr' := TR_same hr hw.1 sm
    have hd' := sm.2.2.2
    obtain ⟨N1, n1, d1⟩ := M_minds M'
    have hrn := TR_MD hr' hw.1 d1
    have w1 := gb_wf hw (k / 2) p
    have w2 : wfT 999 (chT T p q k) := gb_wf w1 (k % 2) q
    have w3 := wf_wkN n w2
    have g1 : ∃ N2, (if k / 2 = 1 then (sM_gives N1 (nI p)).bind (fun r7 => some r7) else some N1) = some N2 ∧ TR (gb (k / 2) p T) (N2 0) ∧ mF [8] [] N1 N2 := by
      unfold gb
      by_cases g : k / 2 = 1
      · obtain ⟨N2, a1, a2, a3⟩ := M_gives hw hrn p
        rw [if_pos g, if_pos g, a1, zb_bs]
        exact ⟨_, rfl, a2, a3⟩
      · rw [if_neg g, if_neg g]
        exact ⟨_, rfl, hrn, mF.rf⟩
    obtain ⟨N2, n2, r2, f2⟩ := g1
    have g2 : ∃ N3, (if k % 2 = 1 then (sM_gives N2 (nI q)).bind (fun r11 => some r11) else some N2) = some N3 ∧ TR (chT T p q k) (N3 0) ∧ mF [8] [] N2 N3 := by
      unfold chT
      rw [show gb (k % 2) q (gb (k / 2) p T) = if k % 2 = 1 then gbT (gb (k / 2) p T) q (nb (gb (k / 2) p T)) else gb (k / 2) p T from rfl]
      by_cases g : k % 2 = 1
      · obtain ⟨N3, a1, a2, a3⟩ := M_gives w1 r2 q
        rw [if_pos g, if_pos g, a1, zb_bs]
        exact ⟨_, rfl, a2, a3⟩
      · rw [if_neg g, if_neg g]
        exact ⟨_, rfl, r2, mF.rf⟩
    obtain ⟨N3, n3, r3, f3⟩ := g2
    obtain ⟨N4, n4, r4, f4⟩ := M_goes w2 (by omega) r3 (n := n) (by rw [f3 0 0 17 (by simp), f2 0 0 17 (by simp), d1.d]; exact hd')
    have hpn : p < np (wkN n (chT T p q k)) := by rw [np_wkN]; unfold chT; rw [gb_np, gb_np]; exact hp
    have m1 := M_manyRead w3 (by omega) r4 p
    have hu : ∀ {a : Nat} {v : Int32}, mF [43] [] N4 (jm_up N4 0 43 a v) := mF.up (Or.inl (by simp))
    have m2 : ∀ {a : Nat} {v : Int32}, sM_manyRead (jm_up N4 0 43 a v) (nI q) = some (ts_many (wkN n (chT T p q k)) q) := fun {a v} => M_manyRead w3 (by omega) (TR_mF r4 w3.1 (hu (a := a) (v := v)) (fun j i hc e => by
      rcases hc with ⟨h1, h2, h3⟩ | ⟨h1, h2, h3⟩ <;> (simp at e; omega))) q
    have h43 : ∀ j, N4 0 43 j = M' 0 43 j := fun j => by rw [f4 0 43 j (by simp), f3 0 43 j (by simp), f2 0 43 j (by simp), d1.2.2 0 43 j (by simp)]
    have fb : mF [2, 3, 4, 5, 6, 7, 8, 9, 10, 11, 12, 13, 38, 39, 40, 43] [13, 14, 15, 16, 17, 43] N1 (jm_up (jm_up N4 0 43 (2 * k) (twA T p q n k)) 0 43 (2 * k + 1) (twB T p q n k)) :=
      (((f2.tr f3).mono (fun x h => by simp at h ⊢; omega) (fun x h => by simp at h)).tr f4.goes).tr ((mF.up (Or.inl (by simp))).tr (mF.up (Or.inl (by simp))))
    obtain ⟨N5, n5, s5, k5⟩ := M_forgets2 d1 fb
    unfold sM_findEnds_L3
    simp only []
    rw [if_neg (show ¬ (4 : Int32) ≤ nI k from zb_nle (a := 4) hk (by omega)), n1, zb_bs, show jm_dv (nI k) 2 = some (nI (k / 2)) from zb_dv (d := 2) (by omega) (by omega) (by omega), show jm_rm (nI k) 2 = some (nI (k % 2)) from zb_rm (d := 2) (by omega) (by omega) (by omega), show (2 : Int32) * nI k = nI (2 * k) from (show nI 2 * nI k = _ from pk_mul ..)]
    simp only [zb_bs, zb_if1 (show k / 2 < 1000 by omega), zb_if1 (show k % 2 < 1000 by omega)]
    rw [n2, zb_bs, n3, zb_bs, n4, zb_bs, m1, zb_bs, zb_wa (by omega) (by omega), zb_bs, m2, zb_bs, nI_1, zb_wa (by omega) (by omega), zb_bs]
    have n5' := n5
    unfold twA twB at n5'
    rw [n5', zb_bs, nI_1]
    refine ⟨_, rfl, N5, rfl, sm.tr s5, fun j h => ?_⟩
    rw [k5 43 (by omega)]
    by_cases g : j = k
    · subst g
      rw [zb_up_n (by omega), zb_up_s, zb_up_s]
      exact ⟨rfl, rfl⟩
    · rw [zb_up_n (by omega), zb_up_n (by omega), zb_up_n (by omega), zb_up_n (by omega), h43, h43]
      exact hj j (by omega)) (by
    intro s hs
    obtain ⟨M', rfl, sm, hj⟩ := hs
    unfold sM_findEnds_L3
    simp only []
    rw [if_pos (show (4 : Int32) ≤ nI 4 from zb_yle (Nat.le_refl 4) (by omega))]
    exact ⟨_, rfl, sm, hj⟩)
  rw [e1, zb_bs]
  exact ⟨_, rfl, e2⟩
