/-! damp weeks -/
noncomputable def dF (T : jm_T) (p q n t d : Nat) : Nat := if ts_over (wkD n d T) p q < 0 then 0 else (t - 1) ^ d
theorem dF_le (T : jm_T) (p q n t d : Nat) : dF T p q n t d ≤ 1 * (t - 1) ^ d := by
  unfold dF
  rw [Nat.one_mul]
  split
  · exact Nat.zero_le _
  · exact Nat.le_refl _
theorem zb_lm {a b : Nat} (hb : b < 1000000) : lN a * (nI b).toInt64 = lN (a * b) := by rw [nI_l (by omega), lN_mul]
theorem Q_power {t n : Nat} (ht : t < 1000000) (hn : n < 1000000) : sQ_power (lN t) (nI n) = some (lN (t ^ n)) := by
  unfold sQ_power
  refine zb_forB (fun k => (lN (t ^ k), nI k)) _ n (by rw [Nat.pow_zero]; rfl) ?_ ?_ hn rfl
  · intro k hk
    unfold sQ_power_L5
    simp only []
    rw [if_neg (zb_nle hk hn), zb_bs, lN_mul, ← Nat.pow_succ, nI_1]
  · unfold sQ_power_L5
    simp only []
    rw [if_pos (zb_yle (Nat.le_refl _) hn)]
theorem M_power {t n : Nat} (ht : t < 1000000) (hn : n < 1000000) : jm_loop (sM_damp_L85 (nI n) (nI t)) jm_N (1, 0) = some (lN (t ^ n)) := by
  refine zb_for (fun k => (lN (t ^ k), nI k)) n (by rw [Nat.pow_zero]; rfl) ?_ ?_ hn
  · intro k hk
    unfold sM_damp_L85
    simp only []
    rw [if_neg (zb_nle hk hn), zb_bs, zb_lm ht, ← Nat.pow_succ, nI_1]
  · unfold sM_damp_L85
    simp only []
    rw [if_pos (zb_yle (Nat.le_refl _) hn)]
section
variable {C M : jm_M} {w : Nat}
theorem F_dampIn {T : jm_T} (hw : wfT w T) {n d : Nat} (hn : n < 1000) (hd : d ≤ n) {s1 : Int64 × Int64 × Int64 × Int32 × jm_M} (hs : s1.2.2.2.1 = nI d) : jm_loop (sF_dampCases_L27 (nI n) s1) jm_N (0, stT C 4 T) = some (stT C 4 (wkD n d T)) := by
  have e : stT C 4 (wkD n d T) = stT C 4 (wkD n (min n d) T) := by rw [Nat.min_eq_right hd]
  rw [e]
  refine zb_for (fun k => (nI k, stT C 4 (wkD k (min k d) T))) n (by rw [Nat.zero_min, wkD_0]; rfl) ?_ ?_ (by omega)
  · intro k hk
    have hk2 := (wf_wkD hw (show min k d ≤ k from Nat.min_le_left k d)).1
    unfold sF_dampCases_L27
    simp only []
    rw [if_neg (zb_nle hk (by omega)), hs, nI_1]
    by_cases c : d ≤ k
    · rw [if_pos (zb_yle c (by omega)), zb_bs, T_weekPasses (by rw [stT_s]; exact hk2) false (by simp), zb_bs, stT_s, stT_2, wkD_f (Nat.min_le_left k d), Nat.min_eq_right c, Nat.min_eq_right (show d ≤ k + 1 by omega)]
    · rw [if_neg (zb_nle (by omega) (by omega)), zb_bs, T_weekPasses (by rw [stT_s]; exact hk2) true (by simp), zb_bs, stT_s, stT_2, wkD_t (Nat.min_le_left k d), Nat.min_eq_left (show k ≤ d by omega), Nat.min_eq_left (show k + 1 ≤ d by omega)]
  · unfold sF_dampCases_L27
    simp only []
    rw [if_pos (zb_yle (Nat.le_refl _) (by omega))]
theorem F_dampCases (hw : wfT w (C 1)) (z1 : ZT (C 1)) (z4 : ZT (C 4)) {p q n t : Nat} (hp : p < np (C 1)) (hq : q < np (C 1)) (hn : n ≤ 7) (ht : 2 ≤ t) (ht2 : t ≤ 20) : ∃ T', sF_dampCases C 1 (nI p) (nI q) (nI n) (nI t) = some (lN (bn n (dF (C 1) p q n t)), stT C 4 T') ∧ ZT T' := by
  have h6 := hw.1.p.2
  unfold sF_dampCases
  obtain ⟨e, e1, T', rfl, zT⟩ := zb_ch (f := sF_dampCases_L12 (nI n) 1 (nI p) (nI q) (nI t)) (s := (0, 1, 1, 0, C)) (fun (k : Nat) (u : Int64 × Int64 × Int64 × Int32 × jm_M) => ∃ T', u = (lN (ks n (dF (C 1) p q n t) k), lN (wy n k), lN ((t - 1) ^ k), nI k, stT C 4 T') ∧ ZT T') (fun e => ∃ T', e = (lN (bn n (dF (C 1) p q n t)), stT C 4 T') ∧ ZT T') (n + 1) (by omega) ⟨C 4, by rw [stT_self, Nat.pow_zero]; rfl, z4⟩ (by
    intro k hk u hu
    obtain ⟨T', rfl, zT⟩ := hu
    left
    have hD := wf_wkD hw (show k ≤ n by omega)
    have wl := wy_le n hn k (by omega)
    unfold sF_dampCases_L12
    simp only []
    rw [if_neg (show ¬ nI n < nI k by rw [zb_lt (by omega) (by omega)]; omega), F_think (by omega) (by rw [stT_s]; exact zT) (by rw [stT_n (by omega)]; exact z1), zb_bs, stT_n (by omega), stT_2, F_dampIn (n := n) (d := k) hw (by omega) (by omega) rfl, zb_bs, T_comesDown (by rw [stT_s]; exact hD.1) (by omega) (by omega), zb_bs, stT_s, show (1 : Int32) = nI 1 from rfl, pk_sub (show k ≤ n by omega), pk_sub (show 1 ≤ t by omega), nI_add, zb_lm (by omega), nI_l (by omega), zb_ldv (by
      have : wy n k * (n - k) ≤ 35 * 7 := Nat.mul_le_mul wl (by omega)
      omega) (by omega) (by omega), zb_lm (by omega)]
    have e11 : ∀ (K : Int64 → Option ((Int64 × Int64 × Int64 × Int32 × jm_M) ⊕ (Int64 × jm_M))), Option.bind (if (if ts_over (wkD n k (C 1)) p q < 0 then (0 : Int32) else nI 1) = 0 then some (lN (ks n (dF (C 1) p q n t) k)) else (some (lN (ks n (dF (C 1) p q n t) k) + lN (wy n k) * lN ((t - 1) ^ k))).bind fun x13 => some x13) K = K (lN (ks n (dF (C 1) p q n t) (k + 1))) := by
      intro K
      rw [ks_S]
      by_cases c : ts_over (wkD n k (C 1)) p q < 0
      · have e0 : dF (C 1) p q n t k = 0 := by unfold dF; rw [if_pos c]
        rw [if_pos c, zb_i00, zb_bs, e0, Nat.mul_zero, Nat.add_zero]
      · have e0 : dF (C 1) p q n t k = (t - 1) ^ k := by unfold dF; rw [if_neg c]
        rw [if_neg c, if_neg (by decide), zb_bs, zb_bs, lN_mul, lN_add, e0]
    rw [e11, zb_bs, zb_bs, ← Nat.pow_succ]
    exact ⟨_, rfl, wkD n k (C 1), rfl, ZT_wkD hw z1⟩) (by
    intro u hu
    obtain ⟨T', rfl, zT⟩ := hu
    unfold sF_dampCases_L12
    simp only []
    rw [if_pos (show nI n < nI (n + 1) by rw [zb_lt (by omega) (by omega)]; omega), ks_bn hn]
    exact ⟨_, rfl, T', rfl, zT⟩)
  rw [e1, zb_bs]
  exact ⟨T', rfl, zT⟩
theorem M_dampIn {T : jm_T} (hw : wfT 999 T) (hr : TR T (M 0)) {n s t : Nat} {s15 : Int64 × Int32 × jm_M} (hs : s15.2.1 = nI s) (hs2 : s < 1024) (hn : n ≤ 7) (ht : 2 ≤ t) (ht2 : t ≤ 20) : ∃ e, jm_loop (sM_damp_L126 (nI n) s15 (nI t)) jm_N (1, 0, M) = some e ∧ e.1 = lN ((t - 1) ^ cz n s) ∧ TR (wkD n (cz n s) T) (e.2 0) ∧ mF [2, 8, 9] [15, 17] M e.2 := by
  refine zb_ch (fun (k : Nat) (u : Int64 × Int32 × jm_M) => ∃ M', u = (lN ((t - 1) ^ cz k s), nI k, M') ∧ TR (wkD k (cz k s) T) (M' 0) ∧ mF [2, 8, 9] [15, 17] M M') _ n (by omega) ⟨M, by rw [show cz 0 s = 0 from rfl, Nat.pow_zero]; rfl, hr, mF.rf⟩ ?_ ?_
  · intro k hk u hu
    obtain ⟨M', rfl, r1, f1⟩ := hu
    left
    have hD := wf_wkD hw (cz_le k s)
    have hb := zb_hb k (by omega) s hs2
    have up : ∀ v, TR (wkD k (cz k s) T) (jm_up M' 0 0 17 v 0) ∧ mF [2, 8, 9] [15, 17] M (jm_up M' 0 0 17 v) := fun v =>
      ⟨TR_core r1 hD.1 (fun j i hj => zb_up_n (by rcases hj with ⟨h1, h2, h3⟩ | ⟨h1, h2, h3⟩ <;> omega)), f1.tr (mF.up (Or.inr ⟨rfl, by simp⟩))⟩
    unfold sM_damp_L126
    simp only []
    rw [if_neg (zb_nle hk (by omega)), hs]
    unfold jm_wz
    cases c : s.testBit k with
    | true =>
      obtain ⟨u1, u2⟩ := up 1
      obtain ⟨M2, g1, g2, g3⟩ := M_goesWeek hD (by omega) u1 false (by rw [zb_up_s]; simp)
      rw [show sM_has (nI s) (nI k) = some 1 from by rw [M_has, if_pos (hb.2 c)], zb_bs, if_pos (Or.inr rfl), zb_bs, zb_up_s, if_neg (by decide), zb_bs, zb_bs, g1, zb_bs, nI_1]
      have ec : cz (k + 1) s = cz k s := by rw [cz_S, c, if_neg (by decide)]
      rw [ec]
      refine ⟨_, rfl, M2, by rw [show (1 : Int64) = lN 1 from rfl, lN_mul, Nat.mul_one], ?_, u2.tr (g3.mono (fun x h => h) (fun x h => by simp at h ⊢; omega))⟩
      rw [wkD_f (cz_le k s)] at g2
      exact g2
    | false =>
      obtain ⟨u1, u2⟩ := up 0
      obtain ⟨M2, g1, g2, g3⟩ := M_goesWeek hD (by omega) u1 true (by rw [zb_up_s]; simp)
      rw [show sM_has (nI s) (nI k) = some 0 from by rw [M_has, if_neg (fun z => by rw [hb.1 z] at c; cases c)], zb_bs, if_pos (Or.inl rfl), zb_bs, zb_up_s, if_pos rfl, zb_bs, zb_bs, g1, zb_bs, nI_1]
      have ec : cz (k + 1) s = cz k s + 1 := by rw [cz_S, if_pos c]
      rw [ec]
      refine ⟨_, rfl, M2, by rw [show (1 : Int32) = nI 1 from rfl, pk_sub (show 1 ≤ t by omega), zb_lm (by omega), ← Nat.pow_succ], ?_, u2.tr (g3.mono (fun x h => h) (fun x h => by simp at h ⊢; omega))⟩
      rw [wkD_t (cz_le k s)] at g2
      exact g2
  · intro u hu
    obtain ⟨M', rfl, r1, f1⟩ := hu
    unfold sM_damp_L126
    simp only []
    rw [if_pos (zb_yle (Nat.le_refl _) (by omega))]
    exact ⟨_, rfl, rfl, r1, f1⟩
theorem M_dampLoop (h : Inv C M) {p q n t : Nat} (hp : p < np (C 1)) (hq : q < np (C 1)) (hn : n ≤ 7) (ht : 2 ≤ t) (ht2 : t ≤ 20) : ∃ M', jm_loop (sM_damp_L108 (nI n) (nI t) (nI p) (nI q)) jm_N (0, 0, M) = some (lN (bn n (dF (C 1) p q n t)), M') ∧ sameM M M' := by
  obtain ⟨hw, hr, hd⟩ := h.now
  have hN : 2 ^ n ≤ 2 ^ 7 := Nat.pow_le_pow_right (by omega) hn
  obtain ⟨e, e1, M', rfl, e2⟩ := zb_ch (f := sM_damp_L108 (nI n) (nI t) (nI p) (nI q)) (s := (0, 0, M)) (fun (k : Nat) (u : Int64 × Int32 × jm_M) => ∃ M', u = (lN (uS n (dF (C 1) p q n t) k), nI k, M') ∧ sameM M M') (fun e => ∃ M', e = (lN (bn n (dF (C 1) p q n t)), M') ∧ sameM M M') (2 ^ n) (by omega) ⟨M, rfl, sameM.rf hd⟩ (by
    intro k hk u hu
    obtain ⟨M', rfl, sm⟩ := hu
    left
    have hr' := TR_same hr hw.1 sm
    obtain ⟨M1, m1, d1⟩ := M_minds M'
    have hr1 := TR_MD hr' hw.1 d1
    obtain ⟨⟨v, M2⟩, i1, i2, i3, i4⟩ := M_dampIn (s15 := (lN (uS n (dF (C 1) p q n t) k), nI k, M')) hw hr1 rfl (show k < 1024 by omega) hn ht ht2
    have i2' : v = lN ((t - 1) ^ cz n k) := i2
    subst i2'
    have hD := wf_wkD hw (cz_le n k)
    obtain ⟨M3, f1, s3⟩ := M_forgets d1 (i4.mono (fun x h => by simp at h ⊢; omega) (fun x h => by simp at h ⊢; omega))
    unfold sM_damp_L108
    simp only []
    rw [zb_shl n (by omega), if_neg (zb_nle hk (by omega)), m1, zb_bs, i1, zb_bs, M_comesDown hD (by omega) i3 (by rw [np_wkD]; exact hp) (by rw [np_wkD]; exact hq), zb_bs, f1, nI_1]
    refine ⟨_, ?_, M3, rfl, sm.tr s3⟩
    rw [uS_S]
    by_cases c : ts_over (wkD n (cz n k) (C 1)) p q < 0
    · have e0 : dF (C 1) p q n t (cz n k) = 0 := by unfold dF; rw [if_pos c]
      rw [if_pos c, zb_i00, zb_bs, zb_bs, zb_bs, e0, show (0 : Int64) = lN 0 from rfl, lN_add]
    · have e0 : dF (C 1) p q n t (cz n k) = (t - 1) ^ cz n k := by unfold dF; rw [if_neg c]
      rw [if_neg c, if_neg (by decide), zb_bs, zb_bs, zb_bs, e0, lN_add]) (by
    intro u hu
    obtain ⟨M', rfl, sm⟩ := hu
    unfold sM_damp_L108
    simp only []
    rw [zb_shl n (by omega), if_pos (zb_yle (Nat.le_refl _) (by omega)), uS_bn n (by omega)]
    exact ⟨_, rfl, M', rfl, sm⟩)
  exact ⟨M', e1, e2⟩
theorem st_damp (h : Inv C M) (x y z a b : Int32) : SL (sW_damp C x y z a b) (sM_damp M x y z a b) := by
  obtain ⟨hw, hr, hd⟩ := h.now
  unfold sW_damp sM_damp
  rw [W_areTwo hw.1, M_areTwo hw.1 hr, W_neither, M_isIn01]
  simp only [zb_bs]
  by_cases h2 : ar2 (C 1) x y
  · obtain ⟨p, q, hp, hq, -, rfl, rfl⟩ := is2 hw.1 h2
    rw [if_pos h2, zb_i10, zb_i10]
    by_cases h3 : z < 0
    · rw [if_pos h3, if_pos h3, zb_bs, if_neg (by decide)]
      exact SL_no h (k := 4) rfl (by omega)
    · rw [if_neg h3, if_neg h3]
      by_cases h4 : 2 ≤ a
      · rw [if_pos h4, if_pos h4]
        by_cases h5 : 7 < z
        · rw [if_pos h5, if_pos h5, zb_bs, if_neg (by decide)]
          exact SL_no h (k := 6) rfl (by omega)
        · rw [if_neg h5, if_neg h5]
          by_cases h6 : a ≤ 20
          · rw [if_pos h6, if_pos h6]
            by_cases h7 : b = 0 ∨ b = 1
            · rw [if_pos h7, if_pos h7, zb_i00, zb_i10, zb_bs, if_pos rfl]
              obtain ⟨n, hn, rfl⟩ := zb_upto (n := 7) (x := z) (by omega) (by rw [Int32.lt_iff_toInt_lt] at h3; rw [Int32.le_iff_toInt_le]; omega) (by rw [Int32.lt_iff_toInt_lt] at h5; rw [Int32.le_iff_toInt_le]; have : (7 : Int32).toInt = (nI 7).toInt := rfl; omega)
              obtain ⟨t, ht, rfl⟩ := zb_upto (n := 20) (x := a) (by omega) (by rw [Int32.le_iff_toInt_le] at h4 ⊢; have : (2 : Int32).toInt = 2 := rfl; have : (0 : Int32).toInt = 0 := rfl; omega) h6
              have ht2 : 2 ≤ t := by
                rcases Nat.lt_or_ge t 2 with g | g
                · exact absurd h4 (zb_nle (a := 2) g (by omega))
                · exact g
              obtain ⟨T', c1, c2⟩ := F_dampCases hw (h.zt (by omega) (by omega)) (h.zt (by omega) (by omega)) hp hq hn ht2 ht
              obtain ⟨M', m1, m2⟩ := M_dampLoop h hp hq hn ht2 ht
              have hI := Inv_same h (sameC_mind h c2) m2
              have b1 := bn_le (t := t) (by omega) n (dF (C 1) p q n t) 1 (dF_le (C 1) p q n t)
              have b2 : t ^ n ≤ 20 ^ 7 := Nat.le_trans (Nat.pow_le_pow_left ht n) (Nat.pow_le_pow_right (by omega) hn)
              have b3 : 0 < t ^ n := Nat.pow_pos (by omega)
              obtain ⟨v, v1, v2⟩ := parts (a := bn n (dF (C 1) p q n t)) (b := t ^ n) (x := b) (by omega) (by omega) b3 h7
              rw [c1, zb_bs, nI_l (by omega), Q_power (by omega) (by omega), zb_bs]
              show SL ((sQ_part (lN (bn n (dF (C 1) p q n t))) (lN (t ^ n)) b).bind _) _
              rw [v1, zb_bs, M_power (by omega) (by omega), zb_bs, m1, zb_bs]
              show SL _ ((sM_partOf (lN (bn n (dF (C 1) p q n t))) (lN (t ^ n)) b).bind _)
              rw [v2, zb_bs]
              exact SL.mk hI
            · rw [if_neg h7, if_neg h7, zb_i10, zb_i00, zb_bs, if_neg (by decide)]
              exact SL_no h (k := 2) rfl (by omega)
          · rw [if_neg h6, if_neg h6, zb_bs, if_neg (by decide)]
            exact SL_no h (k := 6) rfl (by omega)
      · rw [if_neg h4, if_neg h4, zb_bs, if_neg (by decide)]
        exact SL_no h (k := 4) rfl (by omega)
  · rw [if_neg h2, zb_i00, zb_i00, zb_bs, if_neg (by decide)]
    exact SL_no h (k := 1) rfl (by omega)
end
