/-! the reference reads a statement -/
section
variable {M : jm_M} {X : jm_X} {n : Nat}
def stF (X : jm_X) (M : jm_M) (i w k : Nat) : Prop := ∀ j, j < k → M 0 25 (w + j) = nI (stK (X (qS X i j))) ∧ M 0 26 (w + j) = nI (sN X (qS X i j))
theorem M_oneStep (h : txM M X n) {i k s w : Nat} {v : Int32} (hw : w ≤ i) (hi : 0 < i) (hi2 : i < 100) (hv : ¬ v < 0) (hp : M 0 0 27 = nI (qS X i k)) (h30 : M 0 0 30 = nI (w + k)) (hk8 : stK (X (qS X i k)) < 8) : ∃ v' M', sM_readsSteps_L15 (v, M) = some (.inl (v', M')) ∧ wrS s (w + k) M M' ∧ M' 0 0 30 = nI (w + (k + 1)) ∧ M' 0 23 s = M 0 23 s ∧ M' 0 25 (w + k) = nI (stK (X (qS X i k))) ∧ (gS X i k → ¬ v' < 0 ∧ M' 0 0 27 = nI (qS X i (k + 1)) ∧ M' 0 26 (w + k) = nI (sN X (qS X i k))) ∧ (¬ gS X i k → v' < 0 ∧ M' 0 0 27 = nI (qS X i k + 1 + dC X (qS X i k + 1) 2)) := by
  have hq : qS X i k < n := X_lt h.1 (fun e => by rw [e, stK_999] at hk8; omega)
  have hl := qS_le X i k
  have hn := h.1.1
  have hx : ∀ u, txM (jm_up M 0 25 (w + k) u) X n := fun u => ⟨h.1, by rw [zb_up_n (by omega)]; exact h.2.1, fun i hi => by rw [zb_up_n (by omega)]; exact h.2.2 i hi⟩
  unfold sM_readsSteps_L15
  simp only []
  rw [M_sign h (by omega) hp, zb_bs, M_stepOf h.1, if_neg (show ¬ stK (X (qS X i k)) = 8 by omega), zb_bs, if_neg (zb_nd (by omega)), if_neg hv, zb_bs, M_stepOf h.1, if_neg (show ¬ stK (X (qS X i k)) = 8 by omega), zb_bs, h30, zb_wa (by omega) (by omega), zb_bs, zb_up_n (show ¬ (0 = 0 ∧ 0 = 25 ∧ 27 = w + k) by omega), hp, nI_1, wf_up, zb_bs]
  generalize hM1 : jm_up M 0 25 (w + k) (nI (stK (X (qS X i k)))) = M1
  have hx1 : txM M1 X n := by rw [← hM1]; exact hx _
  have a25 : M1 0 25 (w + k) = nI (stK (X (qS X i k))) := by rw [← hM1]; exact zb_up_s
  have a30 : M1 0 0 30 = nI (w + k) := by rw [← hM1, zb_up_n (by omega)]; exact h30
  have aw : wrS s (w + k) M M1 := by rw [← hM1]; exact wrS.rf.up (by omega)
  have a23 : M1 0 23 s = M 0 23 s := by rw [← hM1, zb_up_n (by omega)]
  have r30 : ∀ q, jm_up M1 0 0 27 (nI q) 0 0 30 = nI (w + k) := fun q => by rw [zb_up_n (by omega)]; exact a30
  have hd := dC_le X 2 (qS X i k + 1)
  rw [r30, zb_rd (by omega) (by omega), zb_bs, zb_up_n (show ¬ (0 = 0 ∧ 25 = 0 ∧ w + k = 27) by omega), a25]
  have hr : txM (jm_up M1 0 0 27 (nI (qS X i k + 1))) X n := rdP_tx hx1 _
  by_cases c : stK (X (qS X i k)) < 4
  · rw [if_neg (show ¬ (4 : Int32) ≤ nI (stK (X (qS X i k))) from zb_nle (a := 4) c (by omega)), show (2 : Int32) = nI 2 from rfl, M_number hr (i := qS X i k + 1) (by omega) (by omega) zb_up_s, zb_bs, zb_bs]
    simp only []
    rw [show rdP (jm_up M1 0 0 27 (nI (qS X i k + 1))) (qS X i k + 1 + dC X (qS X i k + 1) 2) = rdP M1 (qS X i k + 1 + dC X (qS X i k + 1) 2) from rdP_2, rdP_n (show ¬ (0 = 0 ∧ 0 = 0 ∧ 30 = 27) by omega), a30, zb_wa (by omega) (by omega), zb_bs, zb_up_n (show ¬ (0 = 0 ∧ 0 = 26 ∧ 30 = w + k) by omega), rdP_n (by omega), a30, nI_1, wf_up, zb_bs]
    refine ⟨_, _, rfl, ?_, zb_up_s, ?_, ?_, fun g => ⟨?_, ?_, ?_⟩, fun g => ⟨?_, ?_⟩⟩
    · exact ((aw.up (by omega)).up (by omega)).up (by omega)
    · rw [zb_up_n (by omega), zb_up_n (by omega), rdP_n (by omega)]; exact a23
    · rw [zb_up_n (by omega), zb_up_n (by omega), rdP_n (by omega)]; exact a25
    · have g2 := g.2 c
      have := nm_lt g2
      rw [if_pos g2]
      exact zb_nd (by have p : 10 ^ 2 = 100 := by decide
                      omega)
    · rw [zb_up_n (by omega), zb_up_n (by omega), show rdP M1 (qS X i k + 1 + dC X (qS X i k + 1) 2) 0 0 27 = nI (qS X i k + 1 + dC X (qS X i k + 1) 2) from zb_up_s, g.2 c, qS_S, if_pos c]
    · rw [zb_up_n (by omega), zb_up_s, if_pos (g.2 c)]
      unfold sN
      rw [if_pos c]
    · rw [if_neg (fun z => g ⟨hk8, fun _ => z⟩)]; decide
    · rw [zb_up_n (by omega), zb_up_n (by omega)]; exact zb_up_s
  · have hg : gS X i k := ⟨hk8, fun z => absurd z c⟩
    rw [if_pos (show (4 : Int32) ≤ nI (stK (X (qS X i k))) from zb_yle (a := 4) (by omega) (by omega)), zb_bs]
    simp only []
    rw [r30, zb_wa (by omega) (by omega), zb_bs, zb_up_n (show ¬ (0 = 0 ∧ 0 = 26 ∧ 30 = w + k) by omega), r30, nI_1, wf_up, zb_bs]
    refine ⟨_, _, rfl, ?_, zb_up_s, ?_, ?_, fun _ => ⟨by decide, ?_, ?_⟩, fun g => absurd hg g⟩
    · exact ((aw.up (by omega)).up (by omega)).up (by omega)
    · rw [zb_up_n (by omega), zb_up_n (by omega), zb_up_n (by omega)]; exact a23
    · rw [zb_up_n (by omega), zb_up_n (by omega), zb_up_n (by omega)]; exact a25
    · rw [zb_up_n (by omega), zb_up_n (by omega), zb_up_s, qS_S, if_neg c]
    · rw [zb_up_n (by omega), zb_up_s]
      unfold sN
      rw [if_neg c]
      rfl
theorem M_readsSteps (h : txM M X n) {i s w : Nat} (hw : w ≤ i) (hi : 0 < i) (hi2 : i < 100) (hp : M 0 0 27 = nI i) (hst : M 0 0 28 = nI s) (hs : s < 49) (h30 : M 0 0 30 = nI w) : ∃ M', sM_readsSteps M = some (if stK (X (qE X i)) = 8 then 1 else 0, M') ∧ wrS s w M M' ∧ M' 0 0 27 = nI (if stK (X (qE X i)) = 8 then qE X i else qE X i + 1 + dC X (qE X i + 1) 2) ∧ (stK (X (qE X i)) = 8 → M' 0 0 30 = nI (w + nS X i) ∧ M' 0 23 s = nI w ∧ M' 0 24 s = nI (nS X i) ∧ stF X M' i w (nS X i)) := by
  obtain ⟨g1, g2, -⟩ := nS_at h.1 i
  have m95 := nS_95 h.1 hi (by omega)
  have ql := qS_lt h.1 (i := i) (by omega)
  have hn := h.1.1
  unfold sM_readsSteps
  rw [hst, zb_wa hs (by omega), zb_bs, h30]
  have hM1 : wrS s w M (jm_up M 0 23 s (nI w)) := wrS.rf.up (by omega)
  obtain ⟨e, e1, e2⟩ := zb_ch (f := sM_readsSteps_L15) (s := (0, jm_up M 0 23 s (nI w)))
    (fun (k : Nat) (u : Int32 × jm_M) => (k ≤ nS X i ∧ ∃ v M', u = (v, M') ∧ ¬ v < 0 ∧ wrS s w M M' ∧ M' 0 0 27 = nI (qS X i k) ∧ M' 0 0 30 = nI (w + k) ∧ M' 0 23 s = nI w ∧ stF X M' i w k) ∨ (k = nS X i + 1 ∧ ¬ stK (X (qE X i)) = 8 ∧ ∃ v M', u = (v, M') ∧ v < 0 ∧ wrS s w M M' ∧ M' 0 0 27 = nI (qE X i + 1 + dC X (qE X i + 1) 2) ∧ M' 0 0 30 = nI (w + (nS X i + 1)) ∧ M' 0 23 s = nI w))
    (fun e => (stK (X (qE X i)) = 8 ∧ ¬ e.1 < 0 ∧ wrS s w M e.2 ∧ e.2 0 0 27 = nI (qE X i) ∧ e.2 0 0 30 = nI (w + nS X i) ∧ e.2 0 23 s = nI w ∧ stF X e.2 i w (nS X i)) ∨ (¬ stK (X (qE X i)) = 8 ∧ e.1 < 0 ∧ wrS s w M e.2 ∧ e.2 0 0 27 = nI (qE X i + 1 + dC X (qE X i + 1) 2) ∧ e.2 0 0 30 = nI (w + (nS X i + 1)) ∧ e.2 0 23 s = nI w))
    (nS X i + 1) (by omega)
    (Or.inl ⟨Nat.zero_le _, 0, _, rfl, by decide, hM1, by rw [zb_up_n (by omega)]; exact hp, by rw [zb_up_n (by omega)]; exact h30, zb_up_s, fun j hj => by omega⟩) (by
    intro k hk u hu
    rcases hu with ⟨hk', v, M', rfl, v0, w1, p1, l1, s1, f1⟩ | ⟨hk', -⟩
    · have hx := w1.tx h
      have qk := ql k hk'
      have ext : ∀ M2 : jm_M, wrS s (w + k) M' M2 → M2 0 25 (w + k) = nI (stK (X (qS X i k))) → M2 0 26 (w + k) = nI (sN X (qS X i k)) → stF X M2 i w (k + 1) := by
        intro M2 w2 a b j hj
        rcases Nat.lt_or_ge j k with z | z
        · rw [w2 0 25 _ (by omega), w2 0 26 _ (by omega)]; exact f1 j z
        · rw [show j = k by omega]; exact ⟨a, b⟩
      rcases Nat.lt_or_ge k (nS X i) with z | z
      · left
        have g := g1 k z
        obtain ⟨v', M2, o1, o2, o3, o4, o5, o6, -⟩ := M_oneStep (s := s) hx hw hi hi2 v0 p1 l1 g.1
        obtain ⟨q1, q2, q3⟩ := o6 g
        exact ⟨_, o1, Or.inl ⟨by omega, v', M2, rfl, q1, w1.tr (o2.mono (by omega)), q2, o3, by rw [o4]; exact s1, ext M2 o2 o5 q3⟩⟩
      · have : k = nS X i := by omega
        subst this
        by_cases d : stK (X (qE X i)) = 8
        · right
          have d' : stK (X (qS X i (nS X i))) = 8 := d
          unfold sM_readsSteps_L15
          simp only []
          rw [M_sign hx (by omega) p1, zb_bs, M_stepOf h.1, if_pos d', zb_bs, if_pos (by decide)]
          exact ⟨_, rfl, Or.inl ⟨d, v0, w1, p1, l1, s1, f1⟩⟩
        · left
          have kl := stK_le (X (qS X i (nS X i)))
          have d' : ¬ stK (X (qS X i (nS X i))) = 8 := d
          obtain ⟨v', M2, o1, o2, o3, o4, o5, -, o6⟩ := M_oneStep (s := s) hx hw hi hi2 v0 p1 l1 (by omega)
          obtain ⟨q1, q2⟩ := o6 g2
          exact ⟨_, o1, Or.inr ⟨rfl, d, v', M2, rfl, q1, w1.tr (o2.mono (by omega)), q2, o3, by rw [o4]; exact s1⟩⟩
    · omega) (by
    intro u hu
    rcases hu with ⟨hk', -⟩ | ⟨-, d, v, M', rfl, v0, w1, p1, l1, s1⟩
    · omega
    · have hx := w1.tx h
      have qe : qE X i ≤ 99 + i := ql (nS X i) (Nat.le_refl _)
      have dl := dC_le X 2 (qE X i + 1)
      unfold sM_readsSteps_L15
      simp only []
      rw [M_sign hx (by omega) p1, zb_bs, M_stepOf h.1, zb_bs, if_pos v0, ite_self]
      exact ⟨_, rfl, Or.inr ⟨d, v0, w1, p1, l1, s1⟩⟩)
  rw [e1, zb_bs]
  have fin2 : ∀ L, wrS s w M e.2 → e.2 0 0 30 = nI (w + L) → e.2 0 23 s = nI w → (jm_rd 49 (e.2 0 23) (e.2 0 0 28)).bind (fun v18 => (jm_wa 49 e.2 0 24 (e.2 0 0 28) (e.2 0 0 30 - v18)).bind (fun M19 => if e.1 < 0 then some ((0 : Int32), M19) else some (1, M19))) = (if e.1 < 0 then some (0, jm_up e.2 0 24 s (nI L)) else some (1, jm_up e.2 0 24 s (nI L))) := by
    intro L w1 l1 s1
    rw [w1 0 0 28 (by omega), hst, zb_rd hs (by omega), zb_bs, s1, l1, pk_sub (by omega), Nat.add_sub_cancel_left, zb_wa hs (by omega), zb_bs]
  rcases e2 with ⟨d, v0, w1, p1, l1, s1, f1⟩ | ⟨d, v0, w1, p1, l1, s1⟩
  · rw [fin2 _ w1 l1 s1, if_neg v0, if_pos d, if_pos d]
    refine ⟨_, rfl, w1.up (by omega), by rw [zb_up_n (by omega)]; exact p1, fun _ => ⟨by rw [zb_up_n (by omega)]; exact l1, by rw [zb_up_n (by omega)]; exact s1, zb_up_s, fun j hj => ?_⟩⟩
    rw [zb_up_n (by omega), zb_up_n (by omega)]
    exact f1 j hj
  · rw [fin2 _ w1 l1 s1, if_pos v0, if_neg d, if_neg d]
    exact ⟨_, rfl, w1.up (by omega), by rw [zb_up_n (by omega)]; exact p1, fun z => absurd z d⟩
end
