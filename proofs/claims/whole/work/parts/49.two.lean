/-! giving books back, two who go on or not -/
noncomputable def gbF (p b : Nat) (T : jm_T) : jm_T := if T 9 b = nI p then pt T 9 b (T 8 b) else T
noncomputable def gbT (T : jm_T) (p n : Nat) : jm_T := zf (gbF p) n T
theorem gbT_j (T : jm_T) (p : Nat) : ∀ n j, ¬ j = 9 → gbT T p n j = T j := by
  intro n
  induction n with
  | zero => intro j _; rfl
  | succ n ih =>
    intro j hj
    show gbF p n (gbT T p n) j = T j
    unfold gbF
    split
    · rw [pt_j hj, ih j hj]
    · exact ih j hj
theorem wf_gb {w : Nat} {T : jm_T} (h : wfT w T) (p : Nat) : ∀ n, n ≤ nb T → wfT w (gbT T p n) := by
  intro n
  induction n with
  | zero => intro _; exact h
  | succ n ih =>
    intro hn
    have i := ih (by omega)
    show wfT w (gbF p n (gbT T p n))
    have e : nb (gbT T p n) = nb T := nb_e (by rw [gbT_j T p n 0 (by omega)])
    unfold gbF
    split
    · exact wf_hold i ((i.2.2.2.1 n (by omega)).2.2.1)
    · exact i
theorem ZT_gb {T : jm_T} (h : ZT T) (p : Nat) : ∀ n, n ≤ 10 → ZT (gbT T p n) := by
  intro n
  induction n with
  | zero => intro _; exact h
  | succ n ih =>
    intro hn
    have i := ih (by omega)
    show ZT (gbF p n (gbT T p n))
    unfold gbF
    split
    · exact ZT_pt i (Or.inr (Or.inr ⟨by omega, by omega⟩))
    · exact i
theorem T_givesBack {C : jm_M} {t p : Nat} (hc : ctT (C t)) : sT_givesBack C t (nI p) = some (stT C t (gbT (C t) p (nb (C t)))) := by
  have h := hc.b
  unfold sT_givesBack
  refine zb_forB (fun k => (nI k, stT C t (gbT (C t) p k))) _ (nb (C t)) (by show (nI 0, stT C t (C t)) = _; rw [stT_self]; rfl) ?_ ?_ (by omega) rfl
  · intro k hk
    unfold sT_givesBack_L2
    simp only [stT_s]
    rw [gbT_j (C t) p k 0 (by omega), h.1, if_neg (zb_nle hk (by omega)), zb_rd (by omega) (by omega), zb_bs, zb_rd (by omega) (by omega), zb_bs, wa_st (by omega) (by omega), zb_bs, stT_s, stT_2, nI_1]
    have e : gbT (C t) p (k + 1) = gbF p k (gbT (C t) p k) := rfl
    rw [e]
    unfold gbF
    by_cases q : gbT (C t) p k 9 k = nI p
    · rw [if_pos q, if_pos q]
    · rw [if_neg q, if_neg q]
  · unfold sT_givesBack_L2
    simp only [stT_s]
    rw [gbT_j (C t) p _ 0 (by omega), h.1, if_pos (zb_yle (Nat.le_refl _) (by omega))]
theorem M_gives {T : jm_T} {M : jm_M} {w : Nat} (hw : wfT w T) (hr : TR T (M 0)) (p : Nat) : ∃ M', sM_gives M (nI p) = some M' ∧ TR (gbT T p (nb T)) (M' 0) ∧ mF [8] [] M M' := by
  have h := hw.1.b
  unfold sM_gives
  obtain ⟨e, e1, e2⟩ := zb_ch (f := sM_gives_L2 (nI p)) (s := (0, M)) (fun (k : Nat) (s : Int32 × jm_M) => ∃ M' : jm_M, s = (nI k, M') ∧ TR (gbT T p k) (M' 0) ∧ mF [8] [] M M') (fun e => TR (gbT T p (nb T)) (e 0) ∧ mF [8] [] M e) (nb T) (by omega) ⟨M, rfl, hr, mF.rf⟩ (by
    intro k hk s hs
    obtain ⟨M', rfl, hr', f⟩ := hs
    left
    have hn : nb (gbT T p k) = nb T := nb_e (by rw [gbT_j T p k 0 (by omega)])
    obtain ⟨g5, g6, g7, g8, g9, -⟩ := hr'.2.2.1 k (by omega)
    unfold sM_gives_L2
    simp only []
    rw [hr'.1.2.1, gbT_j T p k 0 (by omega), h.1, if_neg (zb_nle hk (by omega)), zb_rd (by omega) (by omega), zb_bs, zb_rd (by omega) (by omega), g8, g7]
    have e : gbT T p (k + 1) = gbF p k (gbT T p k) := rfl
    rw [e]
    unfold gbF
    by_cases q : gbT T p k 9 k = nI p
    · rw [if_pos q, if_pos q, zb_bs, zb_bs, zb_wa (by omega) (by omega), zb_bs, nI_1]
      exact ⟨_, rfl, _, rfl, TR_upJ hr' (by omega), f.tr (mF.up (Or.inl (by simp)))⟩
    · rw [if_neg q, if_neg q, zb_bs, zb_bs, zb_wa (by omega) (by omega), zb_bs, nI_1, up_same' g8]
      exact ⟨_, rfl, _, rfl, hr', f⟩) (by
    intro s hs
    obtain ⟨M', rfl, hr', f⟩ := hs
    unfold sM_gives_L2
    simp only []
    rw [hr'.1.2.1, gbT_j T p _ 0 (by omega), h.1, if_pos (zb_yle (Nat.le_refl _) (by omega))]
    exact ⟨_, rfl, hr', f⟩)
  rw [e1, zb_bs]
  exact ⟨_, rfl, e2⟩
noncomputable def gb (x p : Nat) (T : jm_T) : jm_T := if x = 1 then gbT T p (nb T) else T
theorem gb_np (x p : Nat) (T : jm_T) : np (gb x p T) = np T := by
  unfold gb
  split
  · exact np_e (by rw [gbT_j T p _ 0 (by omega)])
  · rfl
theorem gb_nb (x p : Nat) (T : jm_T) : nb (gb x p T) = nb T := by
  unfold gb
  split
  · exact nb_e (by rw [gbT_j T p _ 0 (by omega)])
  · rfl
theorem gb_wf {w : Nat} {T : jm_T} (h : wfT w T) (x p : Nat) : wfT w (gb x p T) := by
  unfold gb
  split
  · exact wf_gb h p _ (Nat.le_refl _)
  · exact h
theorem gb_ZT {T : jm_T} (h : ZT T) (hc : ctT T) (x p : Nat) : ZT (gb x p T) := by
  unfold gb
  split
  · exact ZT_gb h p _ hc.b.2
  · exact h
noncomputable def chT (T : jm_T) (p q k : Nat) : jm_T := gb (k % 2) q (gb (k / 2) p T)
noncomputable def twA (T : jm_T) (p q n k : Nat) : Int32 := ts_many (wkN n (chT T p q k)) p + 2 * nI (k / 2)
noncomputable def twB (T : jm_T) (p q n k : Nat) : Int32 := ts_many (wkN n (chT T p q k)) q + 2 * nI (k % 2)
theorem zb_k4 : ∀ k, k < 4 → nI k >>> ((1 : Int32) &&& 31) = nI (k / 2) ∧ nI k &&& 1 = nI (k % 2) ∧ nI k ^^^ 1 = nI (k ^^^ 1) ∧ nI k ^^^ 2 = nI (k ^^^ 2) ∧ k ^^^ 1 < 4 ∧ k ^^^ 2 < 4 := by decide +kernel
theorem zb_if1 {α : Type} {k : Nat} (hk : k < 1000) {A B : α} : (if nI k = 1 then A else B) = if k = 1 then A else B := by
  by_cases h : k = 1
  · subst h; rw [if_pos rfl, if_pos (by rfl)]
  · rw [if_neg h]
    exact if_neg (show ¬ nI k = nI 1 by rw [zb_eq (by omega) (by omega)]; exact h)
theorem F_weighChoice {C : jm_M} {p q n k : Nat} (hw : wfT 999 (C 1)) (z1 : ZT (C 1)) (z4 : ZT (C 4)) (hp : p < np (C 1)) (hq : q < np (C 1)) (hn : n < 1000) (hk : k < 4) : ∃ T', sF_weighChoice C 1 (nI p) (nI q) (nI n) (nI k) = some (jm_up (jm_up (stT C 4 T') 15 2 k (twA (C 1) p q n k)) 15 3 k (twB (C 1) p q n k)) ∧ ZT T' := by
  obtain ⟨k1, k2, -⟩ := zb_k4 k hk
  have w1 := gb_wf hw (k / 2) p
  have w2 := gb_wf w1 (k % 2) q
  have w3 := wf_wkN n w2
  refine ⟨wkN n (chT (C 1) p q k), ?_, ZT_wkN (gb_ZT (gb_ZT z1 hw.1 _ _) w1.1 _ _) n w2.1⟩
  unfold sF_weighChoice
  rw [zb_bs, zb_bs, F_think (by omega) z4 z1, zb_bs, k1, k2]
  simp only [zb_if1 (show k / 2 < 1000 by omega), zb_if1 (show k % 2 < 1000 by omega)]
  have s1 : (if k / 2 = 1 then (sT_givesBack (stT C 4 (C 1)) 4 (nI p)).bind (fun r6 => some r6) else some (stT C 4 (C 1))) = some (stT C 4 (gb (k / 2) p (C 1))) := by
    unfold gb
    by_cases g : k / 2 = 1
    · rw [if_pos g, if_pos g, T_givesBack (by rw [stT_s]; exact hw.1), zb_bs, stT_s, stT_2]
    · rw [if_neg g, if_neg g]
  have s2 : (if k % 2 = 1 then (sT_givesBack (stT C 4 (gb (k / 2) p (C 1))) 4 (nI q)).bind (fun r9 => some r9) else some (stT C 4 (gb (k / 2) p (C 1)))) = some (stT C 4 (chT (C 1) p q k)) := by
    unfold chT
    rw [show gb (k % 2) q (gb (k / 2) p (C 1)) = if k % 2 = 1 then gbT (gb (k / 2) p (C 1)) q (nb (gb (k / 2) p (C 1))) else gb (k / 2) p (C 1) from rfl]
    by_cases g : k % 2 = 1
    · rw [if_pos g, if_pos g, T_givesBack (by rw [stT_s]; exact w1.1), zb_bs, stT_s, stT_2]
    · rw [if_neg g, if_neg g]
  rw [s1, zb_bs, s2, zb_bs, T_weeksPass (by rw [stT_s]; exact w2.1) (by omega), zb_bs, stT_s, stT_2, T_readingsOf (w := 999 + n) (by rw [stT_s]; exact w3) (by rw [stT_s, np_wkN]; unfold chT; rw [gb_np, gb_np]; exact hp), zb_bs, zb_wa (by omega) (by omega), zb_bs, stT_s,
    T_readingsOf (w := 999 + n) (by rw [show jm_up (stT C 4 (wkN n (chT (C 1) p q k))) 15 2 k (ts_many (wkN n (chT (C 1) p q k)) p + 2 * nI (k / 2)) 4 = stT C 4 (wkN n (chT (C 1) p q k)) 4 from by funext a b; exact zb_up_n (by omega), stT_s]; exact w3)
      (by rw [show jm_up (stT C 4 (wkN n (chT (C 1) p q k))) 15 2 k (ts_many (wkN n (chT (C 1) p q k)) p + 2 * nI (k / 2)) 4 = stT C 4 (wkN n (chT (C 1) p q k)) 4 from by funext a b; exact zb_up_n (by omega), stT_s, np_wkN]; unfold chT; rw [gb_np, gb_np]; exact hq), zb_bs, zb_wa (by omega) (by omega), zb_bs]
  rw [show jm_up (stT C 4 (wkN n (chT (C 1) p q k))) 15 2 k (ts_many (wkN n (chT (C 1) p q k)) p + 2 * nI (k / 2)) 4 = stT C 4 (wkN n (chT (C 1) p q k)) 4 from by funext a b; exact zb_up_n (by omega), stT_s]
  rfl
