/-! the reference keeps a town: passesAll -/
noncomputable def flat (g : jm_T) (i : Nat) : Int32 := if i < 6 then g 2 i else if i < 12 then g 3 (i - 6) else if i < 18 then g 4 (i - 12) else if i < 28 then g 5 (i - 18) else if i < 38 then g 6 (i - 28) else if i < 48 then g 7 (i - 38)
  else if i < 58 then g 8 (i - 48) else if i < 68 then g 9 (i - 58) else if i < 78 then g 10 (i - 68) else if i < 118 then g 11 (i - 78) else if i < 124 then g 12 (i - 118) else if i < 130 then g 13 (i - 124) else g 0 (13 + (i - 130))
theorem jcases {j : Nat} (h1 : 2 ≤ j) (h2 : j ≤ 13) : j = 2 ∨ j = 3 ∨ j = 4 ∨ j = 5 ∨ j = 6 ∨ j = 7 ∨ j = 8 ∨ j = 9 ∨ j = 10 ∨ j = 11 ∨ j = 12 ∨ j = 13 := by omega
theorem flat_at (g : jm_T) {j i : Nat} (h1 : 2 ≤ j) (h2 : j ≤ 13) (hi : i < lns j) : flat g (ofs j + i) = g j i := by
  rcases jcases h1 h2 with rfl | rfl | rfl | rfl | rfl | rfl | rfl | rfl | rfl | rfl | rfl | rfl
  · show flat g (0 + i) = g 2 i; have hi : i < 6 := hi; unfold flat; repeat first | rw [if_neg (by omega)] | rw [if_pos (by omega)]
    rw [Nat.zero_add]
  · show flat g (6 + i) = g 3 i; have hi : i < 6 := hi; unfold flat; repeat first | rw [if_neg (by omega)] | rw [if_pos (by omega)]
    rw [Nat.add_sub_cancel_left]
  · show flat g (12 + i) = g 4 i; have hi : i < 6 := hi; unfold flat; repeat first | rw [if_neg (by omega)] | rw [if_pos (by omega)]
    rw [Nat.add_sub_cancel_left]
  · show flat g (18 + i) = g 5 i; have hi : i < 10 := hi; unfold flat; repeat first | rw [if_neg (by omega)] | rw [if_pos (by omega)]
    rw [Nat.add_sub_cancel_left]
  · show flat g (28 + i) = g 6 i; have hi : i < 10 := hi; unfold flat; repeat first | rw [if_neg (by omega)] | rw [if_pos (by omega)]
    rw [Nat.add_sub_cancel_left]
  · show flat g (38 + i) = g 7 i; have hi : i < 10 := hi; unfold flat; repeat first | rw [if_neg (by omega)] | rw [if_pos (by omega)]
    rw [Nat.add_sub_cancel_left]
  · show flat g (48 + i) = g 8 i; have hi : i < 10 := hi; unfold flat; repeat first | rw [if_neg (by omega)] | rw [if_pos (by omega)]
    rw [Nat.add_sub_cancel_left]
  · show flat g (58 + i) = g 9 i; have hi : i < 10 := hi; unfold flat; repeat first | rw [if_neg (by omega)] | rw [if_pos (by omega)]
    rw [Nat.add_sub_cancel_left]
  · show flat g (68 + i) = g 10 i; have hi : i < 10 := hi; unfold flat; repeat first | rw [if_neg (by omega)] | rw [if_pos (by omega)]
    rw [Nat.add_sub_cancel_left]
  · show flat g (78 + i) = g 11 i; have hi : i < 40 := hi; unfold flat; repeat first | rw [if_neg (by omega)] | rw [if_pos (by omega)]
    rw [Nat.add_sub_cancel_left]
  · show flat g (118 + i) = g 12 i; have hi : i < 6 := hi; unfold flat; repeat first | rw [if_neg (by omega)] | rw [if_pos (by omega)]
    rw [Nat.add_sub_cancel_left]
  · show flat g (124 + i) = g 13 i; have hi : i < 6 := hi; unfold flat; repeat first | rw [if_neg (by omega)] | rw [if_pos (by omega)]
    rw [Nat.add_sub_cancel_left]
theorem ofs_lt {j : Nat} (h1 : 2 ≤ j) (h2 : j ≤ 13) : ofs j + lns j ≤ 130 := by
  rcases jcases h1 h2 with rfl | rfl | rfl | rfl | rfl | rfl | rfl | rfl | rfl | rfl | rfl | rfl <;> decide
noncomputable def KP (M : jm_M) (c off : Nat) (M' : jm_M) : Prop := M' 0 0 33 = 1 ∧ M' 0 0 34 = nI (c + off) ∧ mF [32] [33, 34] M M' ∧ (∀ i, i < off → M' 0 32 (c + i) = flat (M 0) i) ∧ (∀ i, ¬ (c ≤ i ∧ i < c + off) → M' 0 32 i = M 0 32 i)
theorem KP_step {M M' : jm_M} {c off : Nat} (h : KP M c off M') {v : Int32} (hv : v = flat (M 0) off) (hc : c + off < 1500) : KP M c (off + 1) (jm_up (jm_up M' 0 32 (c + off) v) 0 0 34 (nI (c + off + 1))) := by
  obtain ⟨h1, h2, h3, h4, h5⟩ := h
  refine ⟨?_, ?_, ?_, ?_, ?_⟩
  · rw [zb_up_n (by omega), zb_up_n (by omega)]; exact h1
  · rw [zb_up_s, Nat.add_assoc]
  · exact h3.tr ((mF.up (Or.inl (by decide))).tr (mF.up (Or.inr ⟨rfl, by decide⟩)))
  · intro i hi
    rw [zb_up_n (by omega)]
    by_cases e : i = off
    · subst e; rw [zb_up_s, hv]
    · rw [zb_up_n (by omega)]; exact h4 i (by omega)
  · intro i hi
    rw [zb_up_n (by omega), zb_up_n (by omega)]
    exact h5 i (by omega)
theorem KP_pass {M M' : jm_M} {c j : Nat} (h : KP M c (ofs j) M') (h1 : 2 ≤ j) (h2 : j ≤ 13) (hc : c + 134 ≤ 1500) : ∃ M'', sM_passes M' (0, j) = some M'' ∧ KP M c (ofs j + lns j) M'' := by
  have ho := ofs_lt h1 h2
  have hl := len_LM j h1 h2
  obtain ⟨y, hy1, hy⟩ := zb_chain (τ := jm_M) (f := sM_passes_L2 (0, j)) (fun k y => KP M c (ofs j + k) y) (lns j) (by omega) (x := M') h (fun k hk y hy => by
    refine ⟨jm_up (jm_up y 0 32 (c + (ofs j + k)) (M 0 j k)) 0 0 34 (nI (c + (ofs j + k) + 1)), ?_, KP_step hy (flat_at (M 0) h1 h2 hk).symm (by omega)⟩
    obtain ⟨k1, k2, k3, k4, k5⟩ := hy
    have e : y 0 j k = M 0 j k := k3 0 j k (by simp; omega)
    unfold sM_passes_L2
    simp only [hl, zb_bs]
    rw [if_neg (zb_nle hk (by omega)), if_neg (show ¬ y 0 0 33 = 0 by rw [k1]; decide), zb_rd hk (by omega), zb_bs, k2, zb_wa (by omega) (by omega), zb_bs, zb_bs]
    unfold jm_wf
    rw [zb_bs, zb_up_n (by omega), k2, nI_1, nI_1, e])
  refine ⟨y, ?_, hy1⟩
  unfold sM_passes
  refine hy _ y _ ?_ rfl
  unfold sM_passes_L2
  simp only [hl, zb_bs]
  rw [if_pos (zb_yle (Nat.le_refl _) (by omega))]
theorem up_same {M : jm_M} {t j i : Nat} : jm_up M t j i (M t j i) = M := by
  funext a b k
  unfold jm_up
  split
  next h => rw [h.1, h.2.1, h.2.2]
  next => rfl
theorem up_same' {M : jm_M} {t j i : Nat} {v : Int32} (h : M t j i = v) : jm_up M t j i v = M := by rw [← h, up_same]
theorem KP_one {M M' : jm_M} {c s : Nat} (h : KP M c (117 + s) M') (h1 : 13 ≤ s) (h2 : s ≤ 16) (hc : c + 134 ≤ 1500) : ∃ M'', sM_passOne M' (M' 0 0 s) = some (M' 0 0 s, M'') ∧ jm_wf M'' 0 s (M' 0 0 s) = some M'' ∧ KP M c (117 + (s + 1)) M'' := by
  have e : M' 0 0 s = M 0 0 s := h.2.2.1 0 0 s (by simp; omega)
  have hs := KP_step h (v := M' 0 0 s) (by
    rw [e]
    unfold flat
    repeat first | rw [if_neg (by omega)] | fail
    rw [show 13 + (117 + s - 130) = s by omega]) (by omega)
  refine ⟨_, ?_, ?_, hs⟩
  · obtain ⟨k1, k2, k3, k4, k5⟩ := h
    unfold sM_passOne
    rw [if_neg (show ¬ M' 0 0 33 = 0 by rw [k1]; decide), if_neg (show ¬ M' 0 0 33 = 0 by rw [k1]; decide), zb_bs, k2, zb_wa (by omega) (by omega), zb_bs, zb_bs]
    unfold jm_wf
    rw [zb_bs, zb_up_n (by omega), k2, nI_1]
  · unfold jm_wf
    have e2 : (jm_up (jm_up M' 0 32 (c + (117 + s)) (M' 0 0 s)) 0 0 34 (nI (c + (117 + s) + 1))) 0 0 s = M' 0 0 s := by rw [zb_up_n (by omega), zb_up_n (by omega)]
    rw [up_same' e2]
theorem M_keepAll {M : jm_M} {n : Nat} (hn : n ≤ 10) : ∃ M', sM_passesAll M (nI n) 1 = some M' ∧ (∀ j i, core j i → dec (M' 0 32) (135 * n) j i = M 0 j i) ∧ (∀ i, ¬ (135 * n ≤ i ∧ i < 135 * n + 134) → M' 0 32 i = M 0 32 i) ∧ mF [32] [33, 34] M M' := by
  unfold sM_passesAll jm_wf jm_wz
  rw [zb_bs, if_pos (Or.inr rfl), zb_bs, show (135 : Int32) * nI n = nI (135 * n) from by rw [show (135 : Int32) = nI 135 from rfl, pk_mul]]
  have K0 : KP M (135 * n) (ofs 2) (jm_up (jm_up M 0 0 34 (nI (135 * n))) 0 0 33 1) := by
    refine ⟨zb_up_s, ?_, (mF.up (Or.inr ⟨rfl, by decide⟩)).tr (mF.up (Or.inr ⟨rfl, by decide⟩)), fun i hi => absurd hi (by simp [ofs]), fun i hi => ?_⟩
    · rw [zb_up_n (by omega), zb_up_s]; rfl
    · rw [zb_up_n (by omega), zb_up_n (by omega)]
  obtain ⟨m2, e2, K2⟩ := KP_pass K0 (by omega) (by omega) (by omega)
  obtain ⟨m3, e3, K3⟩ := KP_pass (j := 3) K2 (by omega) (by omega) (by omega)
  obtain ⟨m4, e4, K4⟩ := KP_pass (j := 4) K3 (by omega) (by omega) (by omega)
  obtain ⟨m5, e5, K5⟩ := KP_pass (j := 5) K4 (by omega) (by omega) (by omega)
  obtain ⟨m6, e6, K6⟩ := KP_pass (j := 6) K5 (by omega) (by omega) (by omega)
  obtain ⟨m7, e7, K7⟩ := KP_pass (j := 7) K6 (by omega) (by omega) (by omega)
  obtain ⟨m8, e8, K8⟩ := KP_pass (j := 8) K7 (by omega) (by omega) (by omega)
  obtain ⟨m9, e9, K9⟩ := KP_pass (j := 9) K8 (by omega) (by omega) (by omega)
  obtain ⟨m10, e10, K10⟩ := KP_pass (j := 10) K9 (by omega) (by omega) (by omega)
  obtain ⟨m11, e11, K11⟩ := KP_pass (j := 11) K10 (by omega) (by omega) (by omega)
  obtain ⟨m12, e12, K12⟩ := KP_pass (j := 12) K11 (by omega) (by omega) (by omega)
  obtain ⟨m13, e13, K13⟩ := KP_pass (j := 13) K12 (by omega) (by omega) (by omega)
  obtain ⟨f1, a1, b1, J1⟩ := KP_one (s := 13) K13 (by omega) (by omega) (by omega)
  obtain ⟨f2, a2, b2, J2⟩ := KP_one (s := 14) J1 (by omega) (by omega) (by omega)
  obtain ⟨f3, a3, b3, J3⟩ := KP_one (s := 15) J2 (by omega) (by omega) (by omega)
  obtain ⟨f4, a4, b4, J4⟩ := KP_one (s := 16) J3 (by omega) (by omega) (by omega)
  have b1 := Option.some.inj b1
  have b2 := Option.some.inj b2
  have b3 := Option.some.inj b3
  have b4 := Option.some.inj b4
  refine ⟨f4, ?_, ?_, ?_, J4.2.2.1⟩
  · simp only [e2, e3, e4, e5, e6, e7, e8, e9, e10, e11, e12, e13, zb_bs, a1, a2, a3, a4, b1, b2, b3, b4]
  · intro j i hc
    unfold dec
    rcases hc with ⟨rfl, h1, h2⟩ | ⟨h1, h2, h3⟩
    · rw [if_pos rfl, Nat.add_assoc, J4.2.2.2.1 _ (by omega)]
      unfold flat
      repeat first | rw [if_neg (by omega)] | fail
      rw [show 13 + (130 + (i - 13) - 130) = i by omega]
    · have := ofs_lt h1 h2
      rw [if_neg (by omega), Nat.add_assoc, J4.2.2.2.1 _ (by omega), flat_at _ h1 h2 h3]
  · intro i hi
    exact J4.2.2.2.2 i hi
/-! .. and takes it back -/
noncomputable def ofs' (j : Nat) : Nat := if j = 14 then 130 else ofs j
noncomputable def RP (M : jm_M) (c J : Nat) (M' : jm_M) : Prop := M' 0 0 33 = 0 ∧ M' 0 0 34 = nI (c + ofs' J) ∧ mF [2, 3, 4, 5, 6, 7, 8, 9, 10, 11, 12, 13] [33, 34] M M' ∧ ∀ j, 2 ≤ j → j < J → ∀ i, i < lns j → M' 0 j i = M 0 32 (c + ofs j + i)
theorem jmem {j : Nat} (h1 : 2 ≤ j) (h2 : j ≤ 13) : j ∈ [2, 3, 4, 5, 6, 7, 8, 9, 10, 11, 12, 13] := by
  rcases jcases h1 h2 with rfl | rfl | rfl | rfl | rfl | rfl | rfl | rfl | rfl | rfl | rfl | rfl <;> decide
theorem RP_pass {M M' : jm_M} {c j : Nat} (h : RP M c j M') (h1 : 2 ≤ j) (h2 : j ≤ 13) (hc : c + 134 ≤ 1500) : ∃ M'', sM_passes M' (0, j) = some M'' ∧ RP M c (j + 1) M'' := by
  have ho := ofs_lt h1 h2
  have hl := len_LM j h1 h2
  have hoj : ofs' j = ofs j := by unfold ofs'; rw [if_neg (by omega)]
  have hoj1 : ofs' (j + 1) = ofs j + lns j := by
    rcases jcases h1 h2 with rfl | rfl | rfl | rfl | rfl | rfl | rfl | rfl | rfl | rfl | rfl | rfl <;> decide
  obtain ⟨y, hy1, hy⟩ := zb_chain (τ := jm_M) (f := sM_passes_L2 (0, j)) (fun k y => y 0 0 33 = 0 ∧ y 0 0 34 = nI (c + ofs j + k) ∧ mF [2, 3, 4, 5, 6, 7, 8, 9, 10, 11, 12, 13] [33, 34] M y ∧ (∀ q, 2 ≤ q → q < j → ∀ i, i < lns q → y 0 q i = M 0 32 (c + ofs q + i)) ∧ ∀ i, i < k → y 0 j i = M 0 32 (c + ofs j + i)) (lns j) (by omega) (x := M') ⟨h.1, by rw [h.2.1, hoj]; rfl, h.2.2.1, h.2.2.2, fun i hi => by omega⟩ (fun k hk y hy => by
    obtain ⟨k1, k2, k3, k4, k5⟩ := hy
    have e : y 0 32 (c + ofs j + k) = M 0 32 (c + ofs j + k) := k3 0 32 _ (by simp)
    refine ⟨jm_up (jm_up y 0 j k (M 0 32 (c + ofs j + k))) 0 0 34 (nI (c + ofs j + k + 1)), ?_, ?_, ?_, ?_, ?_, ?_⟩
    · unfold sM_passes_L2
      simp only [hl, zb_bs]
      rw [if_neg (zb_nle hk (by omega)), if_pos k1, k2, zb_rd (by omega) (by omega), zb_bs, zb_wa hk (by omega), zb_bs, zb_bs]
      unfold jm_wf
      rw [zb_bs, zb_up_n (by omega), k2, nI_1, nI_1, e]
    · rw [zb_up_n (by omega), zb_up_n (by omega)]; exact k1
    · rw [zb_up_s]; rfl
    · exact k3.tr ((mF.up (Or.inl (jmem h1 h2))).tr (mF.up (Or.inr ⟨rfl, by decide⟩)))
    · intro q hq1 hq2 i hi
      rw [zb_up_n (by omega), zb_up_n (by omega)]
      exact k4 q hq1 hq2 i hi
    · intro i hi
      rw [zb_up_n (by omega)]
      by_cases ei : i = k
      · subst ei; rw [zb_up_s]
      · rw [zb_up_n (by omega)]; exact k5 i (by omega))
  obtain ⟨k1, k2, k3, k4, k5⟩ := hy1
  refine ⟨y, ?_, k1, ?_, k3, ?_⟩
  · unfold sM_passes
    refine hy _ y _ ?_ rfl
    unfold sM_passes_L2
    simp only [hl, zb_bs]
    rw [if_pos (zb_yle (Nat.le_refl _) (by omega))]
  · rw [k2, hoj1, Nat.add_assoc]
  · intro q hq1 hq2 i hi
    by_cases e : q = j
    · subst e; exact k5 i hi
    · exact k4 q hq1 (by omega) i hi
theorem M_backAll {M : jm_M} {n : Nat} (hn : n ≤ 10) : ∃ M', sM_passesAll M (nI n) 0 = some M' ∧ (∀ j i, core j i → M' 0 j i = dec (M 0 32) (135 * n) j i) ∧ mF [2, 3, 4, 5, 6, 7, 8, 9, 10, 11, 12, 13] [13, 14, 15, 16, 33, 34] M M' := by
  unfold sM_passesAll jm_wf jm_wz
  rw [zb_bs, if_pos (Or.inl rfl), zb_bs, show (135 : Int32) * nI n = nI (135 * n) from by rw [show (135 : Int32) = nI 135 from rfl, pk_mul]]
  have K0 : RP M (135 * n) 2 (jm_up (jm_up M 0 0 34 (nI (135 * n))) 0 0 33 0) := by
    refine ⟨zb_up_s, ?_, (mF.up (Or.inr ⟨rfl, by decide⟩)).tr (mF.up (Or.inr ⟨rfl, by decide⟩)), fun j h1 h2 => by omega⟩
    rw [zb_up_n (by omega), zb_up_s]; rfl
  obtain ⟨m2, e2, K2⟩ := RP_pass K0 (by omega) (by omega) (by omega)
  obtain ⟨m3, e3, K3⟩ := RP_pass (j := 3) K2 (by omega) (by omega) (by omega)
  obtain ⟨m4, e4, K4⟩ := RP_pass (j := 4) K3 (by omega) (by omega) (by omega)
  obtain ⟨m5, e5, K5⟩ := RP_pass (j := 5) K4 (by omega) (by omega) (by omega)
  obtain ⟨m6, e6, K6⟩ := RP_pass (j := 6) K5 (by omega) (by omega) (by omega)
  obtain ⟨m7, e7, K7⟩ := RP_pass (j := 7) K6 (by omega) (by omega) (by omega)
  obtain ⟨m8, e8, K8⟩ := RP_pass (j := 8) K7 (by omega) (by omega) (by omega)
  obtain ⟨m9, e9, K9⟩ := RP_pass (j := 9) K8 (by omega) (by omega) (by omega)
  obtain ⟨m10, e10, K10⟩ := RP_pass (j := 10) K9 (by omega) (by omega) (by omega)
  obtain ⟨m11, e11, K11⟩ := RP_pass (j := 11) K10 (by omega) (by omega) (by omega)
  obtain ⟨m12, e12, K12⟩ := RP_pass (j := 12) K11 (by omega) (by omega) (by omega)
  obtain ⟨m13, e13, k1, k2, k3, k4⟩ := RP_pass (j := 13) K12 (by omega) (by omega) (by omega)
  simp only [e2, e3, e4, e5, e6, e7, e8, e9, e10, e11, e12, e13, zb_bs]
  have k2' : m13 0 0 34 = nI (135 * n + 130) := k2
  have hk : ∀ i, m13 0 32 i = M 0 32 i := fun i => k3 0 32 i (by simp)
  -- a number of its own
  have one : ∀ (y : jm_M) (c : Nat) (v : Int32), c < 1500 → y 0 0 33 = 0 → y 0 0 34 = nI c → sM_passOne y v = some (y 0 32 c, jm_up y 0 0 34 (nI (c + 1))) := by
    intro y c v hc h1 h2
    unfold sM_passOne
    rw [if_pos h1, if_pos h1, h2, zb_rd hc (by omega), zb_bs, zb_bs, zb_bs]
    unfold jm_wf
    rw [zb_bs, h2, nI_1]
  rw [one m13 (135 * n + 130) _ (by omega) k1 k2', zb_bs]
  simp only []
  rw [one _ (135 * n + 131) _ (by omega) (by rw [zb_up_n (by omega), zb_up_n (by omega)]; exact k1) (by rw [zb_up_n (by omega), zb_up_s]), zb_bs]
  simp only []
  rw [one _ (135 * n + 132) _ (by omega) (by rw [zb_up_n (by omega), zb_up_n (by omega), zb_up_n (by omega), zb_up_n (by omega)]; exact k1) (by rw [zb_up_n (by omega), zb_up_s]), zb_bs]
  simp only []
  rw [one _ (135 * n + 133) _ (by omega) (by rw [zb_up_n (by omega), zb_up_n (by omega), zb_up_n (by omega), zb_up_n (by omega), zb_up_n (by omega), zb_up_n (by omega)]; exact k1) (by rw [zb_up_n (by omega), zb_up_s]), zb_bs]
  simp only []
  refine ⟨_, rfl, ?_, ?_⟩
  · intro j i hc
    unfold dec
    rcases hc with ⟨rfl, h1, h2⟩ | ⟨h1, h2, h3⟩
    · rw [if_pos rfl]
      rcases (show i = 13 ∨ i = 14 ∨ i = 15 ∨ i = 16 by omega) with rfl | rfl | rfl | rfl
      all_goals
        simp [jm_up, hk]
    · rw [if_neg (by omega), ← k4 j h1 (by omega) i h3]
      repeat first | rw [zb_up_n (by omega)] | fail
  · refine (k3.mono (fun x h => h) (fun x h => by simp at h ⊢; omega)).tr ?_
    intro a j k q
    have q2 : ∀ s, s ∈ [13, 14, 15, 16, 33, 34] → ¬ (a = 0 ∧ j = 0 ∧ k = s) := fun s hs e => q ⟨e.1, Or.inr ⟨e.2.1, by rw [e.2.2]; exact hs⟩⟩
    rw [zb_up_n (q2 16 (by decide)), zb_up_n (q2 34 (by decide)), zb_up_n (q2 15 (by decide)), zb_up_n (q2 34 (by decide)), zb_up_n (q2 14 (by decide)), zb_up_n (q2 34 (by decide)), zb_up_n (q2 13 (by decide)), zb_up_n (q2 34 (by decide))]
