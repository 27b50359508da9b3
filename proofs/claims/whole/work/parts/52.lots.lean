/-! lots -/
theorem sameC_415 {C M C' : jm_M} (h : Inv C M) (h1 : ∀ t, ¬ t = 4 → ¬ t = 15 → C' t = C t) (hz : ZT (C' 4)) : sameC C C' :=
  ⟨fun t a b c d => h1 t d (by omega), by rw [h1 14 (by omega) (by omega)], by rw [h1 14 (by omega) (by omega)], fun _ => by rw [h1 0 (by omega) (by omega)], by rw [h1 0 (by omega) (by omega)], by rw [h1 0 (by omega) (by omega)], by rw [h1 3 (by omega) (by omega)]; exact h.zt (by omega) (by omega), hz, by rw [h1 17 (by omega) (by omega)]⟩
theorem M_forgets3 {M M1 M2 : jm_M} (h : MD M M1) (h2 : mF [2, 3, 4, 5, 6, 7, 8, 9, 10, 11, 12, 13, 38, 39, 40, 43] [13, 14, 15, 16, 17, 43] M1 M2) : ∃ M3, sM_forgets M2 = some M3 ∧ sameM M M3 ∧ M3 0 0 43 = M2 0 0 43 := by
  obtain ⟨M3, e, s3⟩ := M_forgets h h2
  obtain ⟨M4, e4, h3, h4⟩ := M_backAll (M := M2) (n := 2) (by omega)
  refine ⟨M3, e, s3, ?_⟩
  unfold sM_forgets jm_wz at e
  rw [show (2 : Int32) = nI 2 from rfl, e4, zb_bs, if_pos (Or.inl rfl), zb_bs] at e
  injection e with e
  subst e
  rw [zb_up_n (by omega), h4 0 0 43 (by simp)]
noncomputable def sdN (s : Int32) : Int32 := s * 1103515245 + 12345
noncomputable def kdB (s : Int32) : Nat := (s &&& 2147483647).toBitVec.toNat
theorem kdB_at (s : Int32) : s &&& 2147483647 = nI (kdB s) ∧ kdB s < 2 ^ 31 := by
  unfold kdB
  constructor
  · rw [← Int32.toBitVec_inj]
    show _ = BitVec.ofNat 32 _
    simp
  · show (s.toBitVec &&& 2147483647#32).toNat < 2 ^ 31
    rw [BitVec.toNat_and]
    exact Nat.lt_of_le_of_lt Nat.and_le_right (by decide)
noncomputable def kd (n : Nat) (s : Int32) : Int32 := if n = 0 then 9 else nI (kdB s / 65536 % n)
theorem kd_at {n : Nat} (hn : 0 < n) (h6 : n ≤ 6) (s : Int32) : (jm_dv (s &&& 2147483647) 65536).bind (fun v2 => (jm_rm v2 (nI n)).bind (fun v3 => some v3)) = some (kd n s) := by
  obtain ⟨e, h⟩ := kdB_at s
  unfold kd
  rw [if_neg (by omega), e]
  unfold jm_dv
  rw [if_neg (by decide), zb_bs, show (65536 : Int32) = nI 65536 from rfl, pk_div (by omega) (by omega) (by omega), zb_rm (by omega) (by omega) (by omega), zb_bs]
noncomputable def drF (n b : Nat) (u : Int32 × jm_T) : Int32 × jm_T := (sdN u.1, pt u.2 9 b (kd n (sdN u.1)))
noncomputable def drS (T : jm_T) (s : Int32) (n : Nat) : Int32 × jm_T := zf (drF (np T)) n (s, T)
theorem drS_j (T : jm_T) (s : Int32) : ∀ n j, ¬ j = 9 → (drS T s n).2 j = T j := by
  intro n
  induction n with
  | zero => intro j _; rfl
  | succ n ih =>
    intro j hj
    show pt (drS T s n).2 9 n _ j = T j
    rw [pt_j hj, ih j hj]
theorem kd_pl {T : jm_T} (hc : ctT T) (s : Int32) : pl T (kd (np T) s) := by
  have h6 := hc.p.2
  unfold kd
  by_cases h : np T = 0
  · rw [if_pos h]; exact Or.inl rfl
  · rw [if_neg h]; exact Or.inr ⟨_, Nat.mod_lt _ (by omega), rfl⟩
theorem wf_drS {w : Nat} {T : jm_T} (h : wfT w T) (s : Int32) : ∀ n, wfT w (drS T s n).2 := by
  intro n
  induction n with
  | zero => exact h
  | succ n ih =>
    have e : np (drS T s n).2 = np T := np_e (by rw [drS_j T s n 0 (by omega)])
    show wfT w (pt (drS T s n).2 9 n (kd (np T) (sdN (drS T s n).1)))
    rw [← e]
    exact wf_hold ih (kd_pl ih.1 _)
theorem ZT_drS {T : jm_T} (h : ZT T) (s : Int32) : ∀ n, n ≤ 10 → ZT (drS T s n).2 := by
  intro n
  induction n with
  | zero => intro _; exact h
  | succ n ih =>
    intro hn
    exact ZT_pt (ih (by omega)) (Or.inr (Or.inr ⟨by omega, by omega⟩))
noncomputable def ltT (T : jm_T) (s : Int32) : jm_T := wkN 8 (drS T s (nb T)).2
noncomputable def ltF (T : jm_T) (u : Int32 × Int32 × Int32) : Int32 × Int32 × Int32 := ((drS T u.1 (nb T)).1, u.2.1 + (ts_allRead (ltT T u.1) - ts_allRead T), u.2.2 + ts_twos (ltT T u.1))
noncomputable def ltS (T : jm_T) (s : Int32) (n : Nat) : Int32 × Int32 × Int32 := zf (fun _ => ltF T) n (s, 0, 0)
theorem wf_up {M : jm_M} {t k : Nat} {v : Int32} : jm_wf M t k v = some (jm_up M t 0 k v) := rfl
section
variable {C M : jm_M}
theorem F_drawIn {C : jm_M} (hc : ctT (C 4)) (s : Int32) : jm_loop sF_drawSprings_L30 jm_N (s, 0, C) = some ((drS (C 4) s (nb (C 4))).1, stT C 4 (drS (C 4) s (nb (C 4))).2) := by
  have h := hc.b
  have h6 := hc.p
  refine zb_for (fun k => ((drS (C 4) s k).1, nI k, stT C 4 (drS (C 4) s k).2)) (nb (C 4)) (by show (s, nI 0, stT C 4 (C 4)) = _; rw [stT_self]; rfl) ?_ ?_ (by omega)
  · intro k hk
    unfold sF_drawSprings_L30
    simp only [stT_s]
    rw [drS_j (C 4) s k 0 (by omega), h.1, if_neg (zb_nle hk (by omega)), zb_bs]
    have e : drS (C 4) s (k + 1) = drF (np (C 4)) k (drS (C 4) s k) := rfl
    rw [e]
    have e0 := drS_j (C 4) s k 0 (by omega)
    generalize drS (C 4) s k = u at e0
    have ek : sF_keeperDrawn (stT C 4 u.2) (u.1 * 1103515245 + 12345) = some (kd (np (C 4)) (sdN u.1)) := by
      unfold sF_keeperDrawn
      rw [stT_s, e0, h6.1]
      by_cases g : np (C 4) = 0
      · rw [g, if_pos (by decide)]
        unfold kd
        rw [if_pos rfl]
      · rw [if_neg (show ¬ nI (np (C 4)) ≤ (0 : Int32) from zb_nle (b := 0) (by omega) (by omega))]
        exact kd_at (by omega) h6.2 _
    rw [ek, zb_bs, wa_st (by omega) (by omega), zb_bs, stT_s, stT_2, nI_1]
    rfl
  · unfold sF_drawSprings_L30
    simp only [stT_s]
    rw [drS_j (C 4) s _ 0 (by omega), h.1, if_pos (zb_yle (Nat.le_refl _) (by omega))]
theorem F_drawSprings (h : Inv C M) (s : Int32) {n : Nat} (hn : n < 1000) : ∃ C', sF_drawSprings C 1 (nI n) s = some C' ∧ (∀ t, ¬ t = 4 → ¬ t = 15 → C' t = C t) ∧ ZT (C' 4) ∧ C' 15 0 5 = (ltS (C 1) s n).2.1 ∧ C' 15 0 6 = (ltS (C 1) s n).2.2 := by
  obtain ⟨hw, hr, hd⟩ := h.now
  have z1 := h.zt (t := 1) (by omega) (by omega)
  have z4 := h.zt (t := 4) (by omega) (by omega)
  unfold sF_drawSprings
  rw [wf_up, zb_bs, wf_up, zb_bs]
  obtain ⟨e, e1, e2⟩ := zb_ch (f := sF_drawSprings_L16 (nI n) 1) (s := (s, 0, jm_up (jm_up C 15 0 5 0) 15 0 6 0)) (fun (k : Nat) (u : Int32 × Int32 × jm_M) => ∃ C' : jm_M, u = ((ltS (C 1) s k).1, nI k, C') ∧ (∀ t, ¬ t = 4 → ¬ t = 15 → C' t = C t) ∧ ZT (C' 4) ∧ C' 15 0 5 = (ltS (C 1) s k).2.1 ∧ C' 15 0 6 = (ltS (C 1) s k).2.2)
    (fun C' => (∀ t, ¬ t = 4 → ¬ t = 15 → C' t = C t) ∧ ZT (C' 4) ∧ C' 15 0 5 = (ltS (C 1) s n).2.1 ∧ C' 15 0 6 = (ltS (C 1) s n).2.2) n (by omega) ⟨_, rfl, fun t h4 h15 => by funext a b; rw [zb_up_n (by omega), zb_up_n (by omega)], by
      have e : jm_up (jm_up C 15 0 5 0) 15 0 6 0 4 = C 4 := by funext a b; rw [zb_up_n (by omega), zb_up_n (by omega)]
      rw [e]; exact z4, by rw [zb_up_n (by omega), zb_up_s]; rfl, by rw [zb_up_s]; rfl⟩ (by
    intro k hk u hu
    obtain ⟨C', rfl, a1, a2, a3, a4⟩ := hu
    left
    have c1 := a1 1 (by omega) (by omega)
    have wd := wf_drS hw (ltS (C 1) s k).1 (nb (C 1))
    have wn := wf_wkN 8 wd
    unfold sF_drawSprings_L16
    simp only []
    rw [if_neg (zb_nle hk (by omega)), F_think (by omega) a2 (by rw [c1]; exact z1), zb_bs, c1, F_drawIn (by rw [stT_s]; exact hw.1), zb_bs, stT_s, stT_2]
    simp only []
    rw [show (8 : Int32) = nI 8 from rfl, T_weeksPass (by rw [stT_s]; exact wd.1) (by omega), zb_bs, stT_s, stT_2, T_readings (by rw [stT_s]; exact wn.1), zb_bs, T_readings (by rw [stT_n (by omega), c1]; exact hw.1), zb_bs, wf_up, zb_bs, stT_s, stT_n (show ¬ (1 : Nat) = 4 by omega), c1]
    have e4 : ∀ {v : Int32}, jm_up (stT C' 4 (wkN 8 (drS (C 1) (ltS (C 1) s k).1 (nb (C 1))).2)) 15 0 5 v 4 = wkN 8 (drS (C 1) (ltS (C 1) s k).1 (nb (C 1))).2 := by
      intro v
      funext a b
      rw [zb_up_n (by omega), stT_s]
    rw [T_twosDown (by rw [e4]; exact wn.1), zb_bs, wf_up, zb_bs, nI_1, e4]
    refine ⟨_, rfl, _, rfl, fun t h4 h15 => ?_, ?_, ?_, ?_⟩
    · funext a b
      rw [zb_up_n (by omega), zb_up_n (by omega), stT_n h4, a1 t h4 h15]
    · have e : ∀ {v w : Int32}, jm_up (jm_up (stT C' 4 (wkN 8 (drS (C 1) (ltS (C 1) s k).1 (nb (C 1))).2)) 15 0 5 v) 15 0 6 w 4 = wkN 8 (drS (C 1) (ltS (C 1) s k).1 (nb (C 1))).2 := by
        intro v w
        funext a b
        rw [zb_up_n (by omega), zb_up_n (by omega), stT_s]
      rw [e]
      exact ZT_wkN (ZT_drS z1 _ _ hw.1.b.2) 8 wd.1
    · rw [zb_up_n (by omega), zb_up_s, stT_n (by omega), a3]
      rfl
    · rw [zb_up_s, zb_up_n (by omega), stT_n (by omega), a4]
      rfl) (by
    intro u hu
    obtain ⟨C', rfl, a1, a2, a3, a4⟩ := hu
    unfold sF_drawSprings_L16
    simp only []
    rw [if_pos (zb_yle (Nat.le_refl _) (by omega))]
    exact ⟨_, rfl, a1, a2, a3, a4⟩)
  rw [e1, zb_bs]
  exact ⟨_, rfl, e2⟩
end
