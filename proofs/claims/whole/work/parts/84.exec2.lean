/-! statements carried out: laws, books -/
noncomputable def lwT (T : jm_T) (X : jm_X) (i : Nat) : Nat → jm_T
  | 0 => pt T 0 12 (nI 0)
  | k + 1 => if k < 6 then addS (lwT T X i k) (nI (stK (X (qS X i k)))) (nI (sN X (qS X i k))) else lwT T X i k
theorem addS_j (T : jm_T) (k v : Int32) (j : Nat) (hj : ¬ j = 0 ∧ ¬ j = 14 ∧ ¬ j = 15) : addS T k v j = T j := by
  unfold addS
  rw [pt_j (by omega), pt_j (by omega), pt_j (by omega)]
theorem addS_0 (T : jm_T) (k v : Int32) (s : Nat) (hs : ¬ s = 12) : addS T k v 0 s = T 0 s := by
  unfold addS
  rw [pt_k hs, pt_j (by omega), pt_j (by omega)]
theorem addS_12 (T : jm_T) (k v : Int32) : addS T k v 0 12 = nI (ns T + 1) := by
  unfold addS
  exact pt_s
theorem addS_row (T : jm_T) (k v : Int32) (i : Nat) : addS T k v 14 i = (if i = ns T then k else T 14 i) ∧ addS T k v 15 i = (if i = ns T then v else T 15 i) := by
  unfold addS
  by_cases h : i = ns T
  · simp [pt, h]
  · simp [pt, h]
section
variable (T : jm_T) (X : jm_X) (i : Nat)
theorem lwT_S (k : Nat) : lwT T X i (k + 1) = if k < 6 then addS (lwT T X i k) (nI (stK (X (qS X i k)))) (nI (sN X (qS X i k))) else lwT T X i k := rfl
theorem lwT_j (j : Nat) (hj : ¬ j = 0 ∧ ¬ j = 14 ∧ ¬ j = 15) : ∀ k, lwT T X i k j = T j := by
  intro k
  induction k with
  | zero => exact pt_j (by omega)
  | succ k ih =>
    rw [lwT_S]
    split
    · rw [addS_j _ _ _ j hj, ih]
    · exact ih
theorem lwT_0 (s : Nat) (hs : ¬ s = 12) : ∀ k, lwT T X i k 0 s = T 0 s := by
  intro k
  induction k with
  | zero => exact pt_k hs
  | succ k ih =>
    rw [lwT_S]
    split
    · rw [addS_0 _ _ _ s hs, ih]
    · exact ih
theorem lwT_ns : ∀ k, lwT T X i k 0 12 = nI (min k 6) := by
  intro k
  induction k with
  | zero => exact pt_s
  | succ k ih =>
    rw [lwT_S]
    by_cases c : k < 6
    · rw [if_pos c, addS_12]
      unfold ns
      rw [ih, zb_N_nI (by omega)]
      congr 1
      omega
    · rw [if_neg c, ih]
      congr 1
      omega
theorem lwT_n (k : Nat) : ns (lwT T X i k) = min k 6 := by
  unfold ns
  rw [lwT_ns, zb_N_nI (by omega)]
theorem lwT_row : ∀ k j, j < k → j < 6 → lwT T X i k 14 j = nI (stK (X (qS X i j))) ∧ lwT T X i k 15 j = nI (sN X (qS X i j)) := by
  intro k
  induction k with
  | zero => intro j h; omega
  | succ k ih =>
    intro j hj h6
    rw [lwT_S]
    by_cases c : k < 6
    · rw [if_pos c]
      obtain ⟨a, b⟩ := addS_row (lwT T X i k) (nI (stK (X (qS X i k)))) (nI (sN X (qS X i k))) j
      rw [a, b, lwT_n]
      by_cases e : j = k
      · subst e
        rw [if_pos (by omega), if_pos (by omega)]
        exact ⟨rfl, rfl⟩
      · rw [if_neg (by omega), if_neg (by omega)]
        exact ih j (by omega) h6
    · rw [if_neg c]
      exact ih j (by omega) h6
end
theorem wf_clr {w : Nat} {T : jm_T} (hw : wfT w T) : wfT w (pt T 0 12 (nI 0)) := by
  have e00 : pt T 0 12 (nI 0) 0 0 = T 0 0 := pt_k (by omega)
  have e04 : pt T 0 12 (nI 0) 0 4 = T 0 4 := pt_k (by omega)
  refine ⟨⟨by rw [e00]; exact hw.1.1, by rw [e04]; exact hw.1.2.1, ?_⟩, by rw [pt_k (by omega)]; exact hw.2.1, ?_, ?_, ?_, ?_⟩
  · rw [pt_s]; exact ⟨0, by omega, rfl⟩
  · rw [np_e e00, pt_j (by omega), pt_j (by omega), pt_j (by omega)]; exact hw.2.2.1
  · rw [nb_e e04, np_e e00, pt_j (by omega), pt_j (by omega), pt_j (by omega), pt_j (by omega), pt_j (by omega), pt_j (by omega)]
    intro b hb
    rw [pl_e e00, pl_e e00]
    exact hw.2.2.2.1 b hb
  · intro i hi
    unfold ns at hi
    rw [pt_s] at hi
    exact absurd hi (by rw [zb_N_nI (by omega)]; omega)
  · rw [nb_e e04, pt_j (by omega)]; exact hw.2.2.2.2.2
theorem sN_le {X : jm_X} {i k : Nat} (g : gS X i k) : sN X (qS X i k) ≤ 99 := by
  unfold sN
  by_cases c : stK (X (qS X i k)) < 4
  · have := nm_lt (X := X) (g.2 c)
    have p : 10 ^ 2 = 100 := by decide
    rw [if_pos c]
    omega
  · rw [if_neg c]; omega
theorem wf_lwT {w : Nat} {T : jm_T} {X : jm_X} {i : Nat} (hw : wfT w T) : ∀ k, (∀ j, j < k → gS X i j) → wfT w (lwT T X i k) := by
  intro k
  induction k with
  | zero => intro _; exact wf_clr hw
  | succ k ih =>
    intro g
    rw [lwT_S]
    have gk := g k (by omega)
    by_cases c : k < 6
    · rw [if_pos c]
      exact wf_addS (ih (fun j hj => g j (by omega))) (by rw [lwT_n]; omega) ⟨_, by have := gk.1; omega, rfl⟩ ⟨_, sN_le gk, rfl⟩
    · rw [if_neg c]
      exact ih (fun j hj => g j (by omega))
theorem ZT_lwT {T : jm_T} {X : jm_X} {i : Nat} (hz : ZT T) : ∀ k, ZT (lwT T X i k) := by
  intro k
  induction k with
  | zero => exact ZT_pt hz (Or.inl ⟨rfl, by omega⟩)
  | succ k ih =>
    rw [lwT_S]
    by_cases c : k < 6
    · rw [if_pos c]
      unfold addS
      have hn := lwT_n T X i k
      exact ZT_pt (ZT_pt (ZT_pt ih (Or.inr (Or.inl ⟨by omega, by omega⟩))) (Or.inr (Or.inl ⟨by omega, by omega⟩))) (Or.inl ⟨rfl, by omega⟩)
    · rw [if_neg c]
      exact ih
section
variable {C M : jm_M} {X : jm_X} {n W s a : Nat}
theorem ex_l (H : exH C M X n W s a) (hd : X a = 108) : exA C M X a (sS_takeLaw (atP C (a + 1))) (sM_comesLaw M (nI s)) := by
  obtain ⟨h, hw, hz, hr, h17, hx, hrec, hs, ha, hok⟩ := H
  have es : stm X a = stp X (a + 1) := by unfold stm; rw [if_neg (by omega), if_neg (by omega), if_pos hd]
  rw [es] at hok
  obtain ⟨s59, s2, sl⟩ := stp_lt h.1 hok
  obtain ⟨g1, g2, -⟩ := nS_at h.1 (a + 1)
  have m95 := nS_95 h.1 (i := a + 1) (by omega) (by omega)
  have ql := qS_lt h.1 (i := a + 1) (by omega)
  obtain ⟨w, w1, w2, w3, w4⟩ := hrec.2.2.2.2.2.2 hd
  have qg : a + 1 + nS X (a + 1) ≤ qE X (a + 1) := qS_le X (a + 1) (nS X (a + 1))
  have hn := h.1.1
  -- the class
  have hC : sS_takeLaw (atP C (a + 1)) = some (if 6 < nS X (a + 1) then 0 else 1, atP (stT C 3 (lwT (C 3) X (a + 1) (nS X (a + 1)))) (qE X (a + 1))) := by
    unfold sS_takeLaw
    rw [wf_st, zb_bs, atP_s (by omega), atP_t (show ¬ 3 = 14 by omega)]
    refine zb_forB (fun k => (nI k, nI k, atP (stT C 3 (lwT (C 3) X (a + 1) k)) (qS X (a + 1) k))) (nI (nS X (a + 1)), atP (stT C 3 (lwT (C 3) X (a + 1) (nS X (a + 1)))) (qE X (a + 1))) (nS X (a + 1)) rfl (fun k hk => ?_) ?_ (by omega) ?_
    · have gk := g1 k hk
      obtain ⟨k1, k2⟩ := gk
      have q1 := ql k (by omega)
      have hk' := h.st (t := 3) (T := lwT (C 3) X (a + 1) k) (by omega)
      have e59 : ¬ sgn (X (qS X (a + 1) k)) = (59 : Int32) := by
        rw [show (59 : Int32) = nI 59 from rfl, sgn_eq h.1 (by omega)]
        intro e
        rw [e, stK_59] at k1
        omega
      have wk := wf_lwT hw k (fun j hj => g1 j (by omega))
      have nk := lwT_n (C 3) X (a + 1) k
      have add : ∀ p, sT_addStep (atP (stT C 3 (lwT (C 3) X (a + 1) k)) p) 3 (nI (stK (X (qS X (a + 1) k)))) (nI (sN X (qS X (a + 1) k))) = some (atP (stT C 3 (lwT (C 3) X (a + 1) (k + 1))) p) := by
        intro p
        have e3 : atP (stT C 3 (lwT (C 3) X (a + 1) k)) p 3 = lwT (C 3) X (a + 1) k := by rw [atP_t (by omega), stT_s]
        rw [lwT_S]
        by_cases c : k < 6
        · rw [if_pos c, T_addStep (by rw [e3]; exact wk.1) (by rw [e3]; omega), e3, atP_s (by omega), stT_2]
        · rw [if_neg c]
          unfold sT_addStep
          rw [e3, lwT_ns, if_pos (show (6 : Int32) ≤ nI (min k 6) from zb_yle (a := 6) (by omega) (by omega))]
      unfold sS_takeLaw_L12
      simp only []
      rw [if_neg (show ¬ (96 : Int32) ≤ nI k from zb_nle (a := 96) (by omega) (by omega)), S_here hk' (by omega), zb_bs, if_neg e59, S_stepHere hk' (by omega), if_neg (show ¬ stK (X (qS X (a + 1) k)) = 8 by omega), zb_bs, atP_w, zb_bs, nI_1]
      by_cases c : stK (X (qS X (a + 1) k)) < 4
      · have tn : sS_takeNumber (atP (stT C 3 (lwT (C 3) X (a + 1) k)) (qS X (a + 1) k + 1)) 2 = _ := S_takeNumber (k := 2) hk' (by omega) (by omega) (k2 c)
        have en : sN X (qS X (a + 1) k) = nm X (qS X (a + 1) k + 1) 2 := by unfold sN; rw [if_pos c]
        rw [if_neg (show ¬ (4 : Int32) ≤ nI (stK (X (qS X (a + 1) k))) from zb_nle (a := 4) c (by omega)), tn, zb_bs, zb_bs]
        simp only []
        rw [← en, add, zb_bs, qS_S, if_pos c]
      · have en : sN X (qS X (a + 1) k) = 0 := by unfold sN; rw [if_neg c]
        have ad := add (qS X (a + 1) k + 1)
        rw [en] at ad
        rw [if_pos (show (4 : Int32) ≤ nI (stK (X (qS X (a + 1) k))) from zb_yle (a := 4) (by omega) (by omega)), zb_bs]
        simp only []
        rw [show (0 : Int32) = nI 0 from rfl, ad, zb_bs, qS_S, if_neg c]
    · have hk' := h.st (t := 3) (T := lwT (C 3) X (a + 1) (nS X (a + 1))) (by omega)
      have qe := ql (nS X (a + 1)) (Nat.le_refl _)
      have e59 : (sgn (X (qE X (a + 1))) = (59 : Int32)) = (X (qE X (a + 1)) = 59) := sgn_eq (k := 59) h.1 (by omega)
      have here : sS_here (atP (stT C 3 (lwT (C 3) X (a + 1) (nS X (a + 1)))) (qE X (a + 1))) = _ := S_here hk' (by omega)
      unfold sS_takeLaw_L12
      show (if (96 : Int32) ≤ nI (nS X (a + 1)) then _ else (sS_here (atP (stT C 3 (lwT (C 3) X (a + 1) (nS X (a + 1)))) (qE X (a + 1)))).bind _) = _
      rw [if_neg (show ¬ (96 : Int32) ≤ nI (nS X (a + 1)) from zb_nle (a := 96) (by omega) (by omega)), here, zb_bs, if_pos (e59.mpr s59)]
      rfl
    · show (if (6 : Int32) < nI (nS X (a + 1)) then _ else _) = _
      by_cases c : 6 < nS X (a + 1)
      · rw [if_pos (show (6 : Int32) < nI (nS X (a + 1)) by rw [show (6 : Int32) = nI 6 from rfl, zb_lt (by omega) (by omega)]; exact c), if_pos c]
      · rw [if_neg (show ¬ (6 : Int32) < nI (nS X (a + 1)) by rw [show (6 : Int32) = nI 6 from rfl, zb_lt (by omega) (by omega)]; exact c), if_neg c]
  rw [hC]
  have zz := ZT_lwT (X := X) (i := a + 1) hz (nS X (a + 1))
  unfold sM_comesLaw
  rw [zb_rd hs (by omega), zb_bs, w3]
  by_cases c : 6 < nS X (a + 1)
  · rw [if_pos c, if_neg (show ¬ nI (nS X (a + 1)) ≤ (6 : Int32) from zb_nle (b := 6) c (by omega))]
    exact ⟨false, _, _, M, rfl, rfl, zz, coreF.rf, fun z => by cases z⟩
  · rw [if_neg c, if_pos (show nI (nS X (a + 1)) ≤ (6 : Int32) from zb_yle (b := 6) (by omega) (by omega)), zb_bs, wf_up, zb_bs]
    generalize hm : nS X (a + 1) = m at *
    obtain ⟨e, e1, e2, e3⟩ := zb_ch (f := sM_comesLaw_L25 (nI s)) (s := (0, jm_up M 0 0 16 (nI m))) (fun (k : Nat) (u : Int32 × jm_M) => ∃ M', u = (nI k, M') ∧ (∀ A j x, ¬ (A = 0 ∧ (j = 12 ∨ j = 13)) → M' A j x = jm_up M 0 0 16 (nI m) A j x) ∧ ∀ j, j < k → M' 0 12 j = nI (stK (X (qS X (a + 1) j))) ∧ M' 0 13 j = nI (sN X (qS X (a + 1) j)))
      (fun e => (∀ A j x, ¬ (A = 0 ∧ (j = 12 ∨ j = 13)) → e A j x = jm_up M 0 0 16 (nI m) A j x) ∧ ∀ j, j < m → e 0 12 j = nI (stK (X (qS X (a + 1) j))) ∧ e 0 13 j = nI (sN X (qS X (a + 1) j))) m (by omega) ⟨_, rfl, fun _ _ _ _ => rfl, fun j hj => by omega⟩ (by
      intro k hk u hu
      obtain ⟨M', rfl, f1, f2⟩ := hu
      left
      obtain ⟨x1, x2⟩ := w4 k hk
      have r16 : M' 0 0 16 = nI m := by rw [f1 0 0 16 (by omega), zb_up_s]
      have r23 : M' 0 23 s = nI w := by rw [f1 0 23 s (by omega), zb_up_n (by omega)]; exact w1
      have r25 : M' 0 25 (w + k) = nI (stK (X (qS X (a + 1) k))) := by rw [f1 0 25 _ (by omega), zb_up_n (by omega)]; exact x1
      have r26 : M' 0 26 (w + k) = nI (sN X (qS X (a + 1) k)) := by rw [f1 0 26 _ (by omega), zb_up_n (by omega)]; exact x2
      have wk : w + k < 97 := by omega
      unfold sM_comesLaw_L25
      simp only []
      rw [r16, if_neg (zb_nle hk (by omega)), zb_rd hs (by omega), zb_bs, r23, nI_add, zb_rd wk (by omega), zb_bs, zb_wa (by omega) (by omega), zb_bs, zb_rd hs (by omega), zb_bs, zb_up_n (by omega), r23, nI_add, zb_rd wk (by omega), zb_bs, zb_up_n (by omega), r25, r26, zb_wa (by omega) (by omega), zb_bs, nI_1]
      refine ⟨_, rfl, _, rfl, fun A j x q => ?_, fun j hj => ?_⟩
      · rw [zb_up_n (by omega), zb_up_n (by omega)]; exact f1 A j x q
      · by_cases g : j = k
        · subst g
          rw [zb_up_n (by omega), zb_up_s, zb_up_s]
          exact ⟨rfl, rfl⟩
        · rw [zb_up_n (by omega), zb_up_n (by omega), zb_up_n (by omega), zb_up_n (by omega)]
          exact f2 j (by omega)) (by
      intro u hu
      obtain ⟨M', rfl, f1, f2⟩ := hu
      have r16 : M' 0 0 16 = nI m := by rw [f1 0 0 16 (by omega), zb_up_s]
      unfold sM_comesLaw_L25
      simp only []
      rw [r16, if_pos (zb_yle (Nat.le_refl _) (by omega))]
      exact ⟨_, rfl, f1, f2⟩)
    rw [e1, zb_bs]
    have hwl := wf_lwT hw m g1
    have en : ∀ j k, 2 ≤ j → j ≤ 11 → e 0 j k = M 0 j k := fun j k h1 h2 => by rw [e2 0 j k (by omega), zb_up_n (by omega)]
    have en0 : ∀ k, ¬ k = 16 → e 0 0 k = M 0 0 k := fun k hk => by rw [e2 0 0 k (by omega), zb_up_n (by omega)]
    refine exA_yes zz (fun A j x q => ?_) (by rw [es, s2]) hwl ⟨⟨?_, ?_, ?_, ?_⟩, ?_, ?_, ?_⟩
    · have q1 : ¬ (A = 0 ∧ (j = 12 ∨ j = 13)) := fun z => q ⟨z.1, Or.inl (by rcases z.2 with rfl | rfl <;> simp)⟩
      rw [e2 A j x q1, zb_up_n (fun z => q ⟨z.1, Or.inr ⟨z.2.1, by rw [z.2.2]; decide⟩⟩)]
    · rw [en0 13 (by omega), lwT_0 _ _ _ 0 (by omega)]; exact hr.1.1
    · rw [en0 14 (by omega), lwT_0 _ _ _ 4 (by omega)]; exact hr.1.2.1
    · rw [en0 15 (by omega), lwT_0 _ _ _ 11 (by omega)]; exact hr.1.2.2.1
    · rw [e2 0 0 16 (by omega), zb_up_s, lwT_ns, Nat.min_eq_left (by omega)]
    · rw [np_e (lwT_0 _ _ _ 0 (by omega) m), lwT_j _ _ _ 2 (by omega), lwT_j _ _ _ 3 (by omega), lwT_j _ _ _ 4 (by omega)]
      intro p hp
      rw [en 2 p (by omega) (by omega), en 3 p (by omega) (by omega), en 4 p (by omega) (by omega)]
      exact hr.2.1 p hp
    · rw [nb_e (lwT_0 _ _ _ 4 (by omega) m), lwT_j _ _ _ 6 (by omega), lwT_j _ _ _ 7 (by omega), lwT_j _ _ _ 8 (by omega), lwT_j _ _ _ 9 (by omega), lwT_j _ _ _ 10 (by omega)]
      intro b hb
      rw [en 5 b (by omega) (by omega), en 6 b (by omega) (by omega), en 7 b (by omega) (by omega), en 8 b (by omega) (by omega), en 9 b (by omega) (by omega)]
      obtain ⟨a1, a2, a3, a4, a5, a6⟩ := hr.2.2.1 b hb
      exact ⟨a1, a2, a3, a4, a5, ti_e a6 (by rw [lwT_j _ _ _ 11 (by omega)]) (en 10 b (by omega) (by omega)) (fun k _ => en 11 _ (by omega) (by omega))⟩
    · rw [lwT_n]
      intro j hj
      obtain ⟨y1, y2⟩ := lwT_row (C 3) X (a + 1) m j (by omega) (by omega)
      rw [y1, y2]
      exact e3 j (by omega)
end
