/-! counts over rows, twos, kinds, prices -/
noncomputable def ts_cnt (T : jm_T) (j : Nat) (x : Int32) : Int32 := zf (fun k v => if T j k = x then v + 1 else v) (nb T) 0
theorem T_booksWith {C : jm_M} {j : Nat} (hc : ctT (C 1)) (hj : j = 6 ∨ j = 8 ∨ j = 9) (x : Int32) : sT_booksWith C 1 (1, j) x = some (ts_cnt (C 1) j x) := by
  have h := hc.b
  have hl : jm_len jm_LC (1, j) = some 10 := by rcases hj with rfl | rfl | rfl <;> rfl
  unfold sT_booksWith ts_cnt
  refine zb_forB (fun k => (zf (fun k v => if C 1 j k = x then v + 1 else v) k 0, nI k)) _ (nb (C 1)) rfl ?_ ?_ (by omega) rfl
  · intro k hk
    unfold sT_booksWith_L5
    rw [h.1, if_neg (zb_nle hk (by omega)), hl, zb_bs, if_neg (zb_nle (show k < 10 by omega) (by omega)), zb_bs, zb_rd (show k < 10 by omega) (by omega), zb_bs]
    simp only [nI_1, zf]
    split <;> rfl
  · unfold sT_booksWith_L5
    rw [h.1, if_pos (zb_yle (Nat.le_refl _) (by omega))]
theorem M_manyIn {T : jm_T} {M : jm_M} {j jT : Nat} (hc : ctT T) (hr : TR T (M 0)) (hj : (j = 5 ∧ jT = 6) ∨ (j = 7 ∧ jT = 8) ∨ (j = 8 ∧ jT = 9)) (x : Int32) : sM_manyIn M (0, j) (M 0 0 14) x = some (ts_cnt T jT x) := by
  have h := hc.b
  have hl : jm_len jm_LM (0, j) = some 10 := by rcases hj with ⟨rfl, rfl⟩ | ⟨rfl, rfl⟩ | ⟨rfl, rfl⟩ <;> rfl
  have he : ∀ k, k < nb T → M 0 j k = T jT k := by
    intro k hk
    obtain ⟨g5, g6, g7, g8, -⟩ := hr.2.2.1 k hk
    rcases hj with ⟨rfl, rfl⟩ | ⟨rfl, rfl⟩ | ⟨rfl, rfl⟩ <;> assumption
  unfold sM_manyIn ts_cnt
  rw [hr.1.2.1, h.1]
  refine zb_forB (fun k => (zf (fun k v => if T jT k = x then v + 1 else v) k 0, nI k)) _ (nb T) rfl ?_ ?_ (by omega) rfl
  · intro k hk
    unfold sM_manyIn_L5
    rw [if_neg (zb_nle hk (by omega)), hl, zb_bs, zb_rd (show k < 10 by omega) (by omega), zb_bs, he k hk]
    simp only [nI_1, zf, zb_bs, Int32.add_zero]
    split <;> rfl
  · unfold sM_manyIn_L5
    rw [if_pos (zb_yle (Nat.le_refl _) (by omega))]
noncomputable def ts_twosR (T : jm_T) (p d : Nat) (v : Int32) : Int32 := zf (fun j v => if ts_over T p (p + 1 + j) < 0 then v else v + 1) d v
noncomputable def ts_twos (T : jm_T) : Int32 := zf (fun p v => ts_twosR T p (np T - (p + 1)) v) (np T) 0
theorem T_twosDown {C : jm_M} {t : Nat} (hc : ctT (C t)) : sT_twosDown C t = some (ts_twos (C t)) := by
  have h := hc.p
  unfold sT_twosDown ts_twos
  refine zb_forB (fun k => (zf (fun p v => ts_twosR (C t) p (np (C t) - (p + 1)) v) k 0, nI k)) _ (np (C t)) rfl ?_ ?_ (by omega) rfl
  · intro p hp
    unfold sT_twosDown_L4
    rw [h.1, if_neg (zb_nle hp (by omega))]
    simp only [zb_bs, nI_1, zf]
    generalize zf (fun p v => ts_twosR (C t) p (np (C t) - (p + 1)) v) p 0 = v0
    refine zb_fromB (fun k => (ts_twosR (C t) p (k - (p + 1)) v0, nI k)) (ts_twosR (C t) p (np (C t) - (p + 1)) v0) (p + 1) (np (C t)) (by omega) ?_ ?_ ?_ (by omega) rfl
    · simp only [Nat.sub_self]
      rfl
    · intro k h1 h2
      unfold sT_twosDown_L16
      rw [h.1, if_neg (zb_nle h2 (by omega)), T_comesDown hc (by omega) (by omega)]
      rw [show k + 1 - (p + 1) = (k - (p + 1)) + 1 by omega]
      simp only [zb_bs, nI_1, ts_twosR, zf]
      rw [show p + 1 + (k - (p + 1)) = k by omega]
      by_cases q : ts_over (C t) p k < 0 <;> simp [q]
    · unfold sT_twosDown_L16
      rw [h.1, if_pos (zb_yle (Nat.le_refl _) (by omega))]
  · unfold sT_twosDown_L4
    rw [h.1, if_pos (zb_yle (Nat.le_refl _) (by omega))]
theorem M_manyDown {T : jm_T} {M : jm_M} {w : Nat} (hw : wfT w T) (hw2 : w < 900000) (hr : TR T (M 0)) : sM_manyDown M = some (ts_twos T) := by
  have h := hw.1.p
  unfold sM_manyDown ts_twos
  refine zb_forB (fun k => (zf (fun p v => ts_twosR T p (np T - (p + 1)) v) k 0, nI k)) _ (np T) rfl ?_ ?_ (by omega) rfl
  · intro p hp
    unfold sM_manyDown_L4
    rw [hr.1.1, h.1, if_neg (zb_nle hp (by omega))]
    simp only [zb_bs, nI_1, zf]
    generalize zf (fun p v => ts_twosR T p (np T - (p + 1)) v) p 0 = v0
    refine zb_fromB (fun k => (ts_twosR T p (k - (p + 1)) v0, nI k)) (ts_twosR T p (np T - (p + 1)) v0) (p + 1) (np T) (by omega) ?_ ?_ ?_ (by omega) rfl
    · simp only [Nat.sub_self]
      rfl
    · intro k h1 h2
      unfold sM_manyDown_L16
      rw [hr.1.1, h.1, if_neg (zb_nle h2 (by omega)), M_comesDown hw (by omega) hr hp h2]
      rw [show k + 1 - (p + 1) = (k - (p + 1)) + 1 by omega]
      simp only [zb_bs, nI_1, ts_twosR, zf, Int32.add_zero]
      rw [show p + 1 + (k - (p + 1)) = k by omega]
      by_cases q : ts_over T p k < 0 <;> simp [q]
    · unfold sM_manyDown_L16
      rw [hr.1.1, h.1, if_pos (zb_yle (Nat.le_refl _) (by omega))]
  · unfold sM_manyDown_L4
    rw [hr.1.1, h.1, if_pos (zb_yle (Nat.le_refl _) (by omega))]
/-! the closest two: which, and how far off -/
noncomputable def ts_clF (T : jm_T) (p q : Nat) (s : Int32 × Int32) : Int32 × Int32 := if s.1 = (-9) then (nI (10 * p + q), jm_abs (ts_over T p q)) else if s.2 ≤ jm_abs (ts_over T p q) then s else (nI (10 * p + q), jm_abs (ts_over T p q))
noncomputable def ts_clR (T : jm_T) (p d : Nat) (s : Int32 × Int32) : Int32 × Int32 := zf (fun j s => ts_clF T p (p + 1 + j) s) d s
noncomputable def ts_cl (T : jm_T) (n : Nat) : Int32 × Int32 := zf (fun p s => ts_clR T p (np T - (p + 1)) s) n (-9, 0)
theorem zb_10 {a b : Nat} : 10 * nI a + nI b = nI (10 * a + b) := by rw [show (10 : Int32) = nI 10 from rfl, pk_mul, nI_add]
theorem T_closestTwo {C : jm_M} {t : Nat} (hc : ctT (C t)) : sT_closestTwo C t = some (ts_cl (C t) (np (C t))).1 := by
  have h := hc.p
  unfold sT_closestTwo
  refine zb_forB (fun k => ((ts_cl (C t) k).1, (ts_cl (C t) k).2, nI k)) (ts_cl (C t) (np (C t))).1 (np (C t)) rfl ?_ ?_ (by omega) rfl
  · intro p hp
    unfold sT_closestTwo_L7
    rw [h.1, if_neg (zb_nle hp (by omega))]
    simp only [zb_bs, nI_1]
    have e : ts_cl (C t) (p + 1) = ts_clR (C t) p (np (C t) - (p + 1)) (ts_cl (C t) p) := rfl
    rw [e]
    generalize ts_cl (C t) p = s0
    refine zb_fromB (fun k => ((ts_clR (C t) p (k - (p + 1)) s0).1, (ts_clR (C t) p (k - (p + 1)) s0).2, nI k)) ((ts_clR (C t) p (np (C t) - (p + 1)) s0).1, (ts_clR (C t) p (np (C t) - (p + 1)) s0).2) (p + 1) (np (C t)) (by omega) ?_ ?_ ?_ (by omega) rfl
    · simp only [Nat.sub_self]
      rfl
    · intro k h1 h2
      unfold sT_closestTwo_L20
      rw [h.1, if_neg (zb_nle h2 (by omega)), T_overOf hc (by omega) (by omega)]
      rw [show k + 1 - (p + 1) = (k - (p + 1)) + 1 by omega]
      have e2 : ts_clR (C t) p (k - (p + 1) + 1) s0 = ts_clF (C t) p k (ts_clR (C t) p (k - (p + 1)) s0) := by
        show ts_clF (C t) p (p + 1 + (k - (p + 1))) _ = _
        rw [show p + 1 + (k - (p + 1)) = k by omega]
        rfl
      rw [e2]
      generalize ts_clR (C t) p (k - (p + 1)) s0 = s
      simp only [zb_bs, nI_1, zb_10]
      unfold ts_clF
      by_cases q : s.1 = -9
      · simp [q]
      · by_cases q2 : s.2 ≤ jm_abs (ts_over (C t) p k) <;> simp [q, q2]
    · unfold sT_closestTwo_L20
      rw [h.1, if_pos (zb_yle (Nat.le_refl _) (by omega))]
  · unfold sT_closestTwo_L7
    rw [h.1, if_pos (zb_yle (Nat.le_refl _) (by omega))]
theorem ts_cl_nn (T : jm_T) (hp : np T ≤ 6) : ∀ n, n ≤ np T → ((ts_cl T n).1 = -9 ∨ ∃ k, k < 1000 ∧ (ts_cl T n).1 = nI k) := by
  have key : ∀ p, p < np T → ∀ d, d ≤ np T → ∀ s : Int32 × Int32, (s.1 = -9 ∨ ∃ k, k < 1000 ∧ s.1 = nI k) → ((ts_clR T p d s).1 = -9 ∨ ∃ k, k < 1000 ∧ (ts_clR T p d s).1 = nI k) := by
    intro p hp d
    induction d with
    | zero => intro _ s hs; exact hs
    | succ d ih =>
      intro hd s hs
      show (ts_clF T p (p + 1 + d) (ts_clR T p d s)).1 = -9 ∨ _
      have h0 := ih (by omega) s hs
      have e : ts_clR T p (d + 1) s = ts_clF T p (p + 1 + d) (ts_clR T p d s) := rfl
      rw [e]
      unfold ts_clF
      split
      · exact Or.inr ⟨_, by omega, rfl⟩
      · split
        · exact h0
        · exact Or.inr ⟨_, by omega, rfl⟩
  intro n
  induction n with
  | zero => intro _; exact Or.inl rfl
  | succ n ih =>
    intro hn
    exact key n (by omega) (np T - (n + 1)) (by omega) _ (ih (by omega))
theorem zb_m9n {k : Nat} (h : k < 1000000) : (nI k < 0) = (nI k = (-9)) := by
  simp [zb_nd h, zb_m9 h]
theorem zb_abs (x : Int32) : sM_sizeOf x = some (jm_abs x) := by
  unfold sM_sizeOf jm_abs
  split
  · rfl
  · rw [Int32.zero_sub]
theorem M_closest {T : jm_T} {M : jm_M} {w : Nat} (hw : wfT w T) (hw2 : w < 900000) (hr : TR T (M 0)) : sM_closest M = some (ts_cl T (np T)).1 := by
  have h := hw.1.p
  unfold sM_closest
  refine zb_forB (fun k => ((ts_cl T k).1, (ts_cl T k).2, nI k)) (ts_cl T (np T)).1 (np T) rfl ?_ ?_ (by omega) rfl
  · intro p hp
    unfold sM_closest_L7
    rw [hr.1.1, h.1, if_neg (zb_nle hp (by omega))]
    simp only [zb_bs, nI_1]
    have e : ts_cl T (p + 1) = ts_clR T p (np T - (p + 1)) (ts_cl T p) := rfl
    have hn := ts_cl_nn T h.2 p (by omega)
    rw [e]
    generalize ts_cl T p = s0 at hn
    have hnn : ∀ d, d ≤ np T - (p + 1) → ((ts_clR T p d s0).1 = -9 ∨ ∃ k, k < 1000 ∧ (ts_clR T p d s0).1 = nI k) := by
      intro d
      induction d with
      | zero => intro _; exact hn
      | succ d ih =>
        intro hd
        have h0 := ih (by omega)
        have e : ts_clR T p (d + 1) s0 = ts_clF T p (p + 1 + d) (ts_clR T p d s0) := rfl
        rw [e]
        unfold ts_clF
        split
        · exact Or.inr ⟨_, by omega, rfl⟩
        · split
          · exact h0
          · exact Or.inr ⟨_, by omega, rfl⟩
    refine zb_fromB (fun k => ((ts_clR T p (k - (p + 1)) s0).1, (ts_clR T p (k - (p + 1)) s0).2, nI k)) ((ts_clR T p (np T - (p + 1)) s0).1, (ts_clR T p (np T - (p + 1)) s0).2) (p + 1) (np T) (by omega) ?_ ?_ ?_ (by omega) rfl
    · simp only [Nat.sub_self]
      rfl
    · intro k h1 h2
      unfold sM_closest_L20
      rw [hr.1.1, h.1, if_neg (zb_nle h2 (by omega)), M_overNow hw (by omega) hr hp h2]
      rw [show k + 1 - (p + 1) = (k - (p + 1)) + 1 by omega]
      have e2 : ts_clR T p (k - (p + 1) + 1) s0 = ts_clF T p k (ts_clR T p (k - (p + 1)) s0) := by
        show ts_clF T p (p + 1 + (k - (p + 1))) _ = _
        rw [show p + 1 + (k - (p + 1)) = k by omega]
        rfl
      rw [e2]
      have hs := hnn (k - (p + 1)) (by omega)
      generalize ts_clR T p (k - (p + 1)) s0 = s at hs
      simp only [zb_bs, nI_1, zb_10, zb_abs]
      unfold ts_clF
      have hc : (s.1 < 0) = (s.1 = -9) := by
        rcases hs with e | ⟨k, hk, e⟩
        · rw [e]; simp
        · rw [e]; exact zb_m9n (by omega)
      by_cases q : s.1 = -9
      · have q' : s.1 < 0 := by rw [hc]; exact q
        simp [q]
      · have q' : ¬ s.1 < 0 := by rw [hc]; exact q
        by_cases q2 : s.2 ≤ jm_abs (ts_over T p k)
        · have q3 : ¬ jm_abs (ts_over T p k) < s.2 := by rw [Int32.lt_iff_toInt_lt]; rw [Int32.le_iff_toInt_le] at q2; omega
          simp [q, q', q2, q3]
        · have q3 : jm_abs (ts_over T p k) < s.2 := by rw [Int32.lt_iff_toInt_lt]; rw [Int32.le_iff_toInt_le] at q2; omega
          simp [q, q', q2, q3]
    · unfold sM_closest_L20
      rw [hr.1.1, h.1, if_pos (zb_yle (Nat.le_refl _) (by omega))]
  · unfold sM_closest_L7
    rw [hr.1.1, h.1, if_pos (zb_yle (Nat.le_refl _) (by omega))]
