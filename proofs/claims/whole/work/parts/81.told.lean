/-! the reference reads the whole text -/
def wrL (M M' : jm_M) : Prop := ∀ a j k, ¬ (a = 0 ∧ ((j = 0 ∧ 27 ≤ k ∧ k ≤ 30) ∨ (20 ≤ j ∧ j ≤ 26))) → M' a j k = M a j k
theorem wrL.rf {M : jm_M} : wrL M M := fun _ _ _ _ => rfl
theorem wrL.tr {M M1 M2 : jm_M} (h : wrL M M1) (h' : wrL M1 M2) : wrL M M2 := fun a j k q => (h' a j k q).trans (h a j k q)
theorem wrT.l {s w : Nat} {M M' : jm_M} (h : wrT s w M M') : wrL M M' := fun a j k q => h a j k (fun e => q (by omega))
theorem wrL.up {M M1 : jm_M} (h : wrL M M1) {k : Nat} {v : Int32} (hk : 27 ≤ k ∧ k ≤ 30) : wrL M (jm_up M1 0 0 k v) := by
  intro a b c q
  rw [zb_up_n (by omega)]
  exact h a b c q
theorem wrL.tx {n : Nat} {X : jm_X} {M M' : jm_M} (h : wrL M M') (ht : txM M X n) : txM M' X n :=
  ⟨ht.1, by rw [h 0 0 26 (by omega)]; exact ht.2.1, fun i hi => by rw [h 0 19 i (by omega)]; exact ht.2.2 i hi⟩
theorem rec_.rows {X : jm_X} {M M' : jm_M} {W s a : Nat} (h : rec_ X M W s a) (hw : ∀ j k, 20 ≤ j → j ≤ 26 → M' 0 j k = M 0 j k) : rec_ X M' W s a := by
  obtain ⟨h1, h2, h3, h4, h5, h6, h7⟩ := h
  refine ⟨by rw [hw 20 s (by omega) (by omega)]; exact h1, by rw [hw 21 s (by omega) (by omega)]; exact h2, fun c => ?_, fun c => ?_, fun c => ?_, fun c => ?_, fun c => ?_⟩
  · rw [hw 22 _ (by omega) (by omega), hw 22 _ (by omega) (by omega), hw 22 _ (by omega) (by omega)]; exact h3 c
  · rw [hw 22 _ (by omega) (by omega), hw 22 _ (by omega) (by omega), hw 22 _ (by omega) (by omega), hw 23 _ (by omega) (by omega), hw 24 _ (by omega) (by omega)]; exact h4 c
  · rw [hw 22 _ (by omega) (by omega), hw 23 _ (by omega) (by omega), hw 24 _ (by omega) (by omega)]; exact h5 c
  · rw [hw 22 _ (by omega) (by omega)]; exact h6 c
  · obtain ⟨w, w1, w2, w3, w4⟩ := h7 c
    refine ⟨w, by rw [hw 23 _ (by omega) (by omega)]; exact w1, by omega, by rw [hw 24 _ (by omega) (by omega)]; exact w3, fun k hk => ?_⟩
    rw [hw 25 _ (by omega) (by omega), hw 26 _ (by omega) (by omega)]
    exact w4 k hk
section
variable {M : jm_M} {X : jm_X} {n : Nat}
theorem M_townLoop (h : txM M X n) (h27 : M 0 0 27 = 0) (h28 : M 0 0 28 = 0) (h30 : M 0 0 30 = 0) : ∃ e, jm_loop sM_town_L17 jm_N (1, M) = some e ∧ e.1 = bI (stm X (aS X (nK X n))).1 ∧ wrL M e.2 ∧ e.2 0 0 27 = nI (aS X (nK X n + 1)) ∧ (allR X n → e.2 0 0 28 = nI (nK X n + 1) ∧ ∃ w, w ≤ 96 ∧ ∀ s, s ≤ nK X n → rec_ X e.2 w s (aS X s)) := by
  obtain ⟨a, b, k47, a96⟩ := nK_at h.1
  have hn := h.1.1
  refine zb_ch (fun (k : Nat) (u : Int32 × jm_M) => (k ≤ nK X n ∧ ∃ M' w, u = (1, M') ∧ wrL M M' ∧ M' 0 0 27 = nI (aS X k) ∧ M' 0 0 28 = nI k ∧ M' 0 0 30 = nI w ∧ w ≤ aS X k ∧ ∀ s, s < k → rec_ X M' w s (aS X s)) ∨ (k = nK X n + 1 ∧ ∃ M', u = (bI (stm X (aS X (nK X n))).1, M') ∧ wrL M M' ∧ M' 0 0 27 = nI (aS X (nK X n + 1)) ∧ (allR X n → M' 0 0 28 = nI (nK X n + 1) ∧ ∃ w, w ≤ 96 ∧ ∀ s, s ≤ nK X n → rec_ X M' w s (aS X s)))) _ (nK X n + 1) (by omega) (Or.inl ⟨Nat.zero_le _, M, 0, rfl, wrL.rf, h27, h28, h30, Nat.zero_le _, fun s hs => by omega⟩) ?_ ?_
  · intro k hk u hu
    rcases hu with ⟨hk', M', w, rfl, f1, p27, p28, p30, hw, hrec⟩ | ⟨hk', -⟩
    · left
      have hx := f1.tx h
      have ak : aS X k ≤ 96 ∧ (k = 0 ∨ aS X k < n) := by
        rcases Nat.eq_zero_or_pos k with z | z
        · subst z; exact ⟨Nat.zero_le _, Or.inl rfl⟩
        · have := (a (k - 1) (by omega)).2
          rw [show k - 1 + 1 = k by omega] at this
          exact ⟨by omega, Or.inr this⟩
      obtain ⟨M2, w', e1, w2, q27, q⟩ := M_statement hx (s := k) (by omega) p27 p28 (by omega) p30 hw
      have step : sM_town_L17 (1, M') = some (.inl (bI (stm X (aS X k)).1, jm_up M2 0 0 28 (nI k + bI (stm X (aS X k)).1))) := by
        have i28 : M2 0 0 28 = nI k := by rw [w2 0 0 28 (by omega)]; exact p28
        have code : (sM_statement M').bind (fun r7 => Option.bind (α := Int32) (if r7.1 = 0 then some 0 else some 1) (fun e8 => (jm_wf r7.2 0 28 ((r7.2 0 0 28) + e8)).bind (fun M10 => some (.inl (r7.1, M10))))) = (some (.inl (bI (stm X (aS X k)).1, jm_up M2 0 0 28 (nI k + bI (stm X (aS X k)).1))) : Option ((Int32 × jm_M) ⊕ (Int32 × jm_M))) := by
          rw [e1, zb_bs]
          simp only []
          cases (stm X (aS X k)).1 with
          | true => rw [if_neg (show ¬ bI true = 0 by decide), zb_bs, i28, wf_up, zb_bs]; rfl
          | false => rw [if_pos (show bI false = 0 from rfl), zb_bs, i28, wf_up, zb_bs]; rfl
        unfold sM_town_L17
        simp only []
        rw [if_neg (show ¬ (1 : Int32) = 0 by decide), p27, hx.2.1, p28]
        by_cases c : aS X k < n
        · rw [if_pos (show nI (aS X k) < nI n by rw [zb_lt (by omega) (by omega)]; exact c)]
          exact code
        · have k0 : k = 0 := ak.2.resolve_right c
          rw [if_neg (show ¬ nI (aS X k) < nI n by rw [zb_lt (by omega) (by omega)]; exact c), if_pos (show nI k = 0 by rw [k0]; rfl)]
          exact code
      refine ⟨_, step, ?_⟩
      have rup : ∀ v, ∀ j k', 20 ≤ j → j ≤ 26 → jm_up M2 0 0 28 v 0 j k' = M2 0 j k' := fun v j k' h1 h2 => zb_up_n (by omega)
      have recs : fin_ X k → (w ≤ w' ∧ w' ≤ aS X (k + 1) ∧ M2 0 0 30 = nI w' ∧ ∀ v s, s < k + 1 → rec_ X (jm_up M2 0 0 28 v) w' s (aS X s)) := by
        intro hf
        obtain ⟨q1, q2, q3, q4⟩ := q hf
        refine ⟨q2, q3, q1, fun v s hs => ?_⟩
        rcases Nat.lt_or_ge s k with z | z
        · exact ((hrec s z).keep w2 z q2).rows (rup v)
        · rw [show s = k by omega]
          exact q4.rows (rup v)
      rcases Nat.lt_or_ge k (nK X n) with z | z
      · left
        have hf := (a k z).1
        obtain ⟨r1, r2, r3, r4⟩ := recs hf
        have hf' : (stm X (aS X k)).1 = true := hf
        refine ⟨by omega, _, w', by rw [hf']; rfl, (f1.tr w2.l).up (by omega), ?_, ?_, ?_, r2, fun s hs => r4 _ s hs⟩
        · rw [zb_up_n (by omega)]; exact q27
        · rw [zb_up_s]
          show nI k + 1 = nI (k + 1)
          exact nI_1 k
        · rw [zb_up_n (by omega)]; exact r3
      · right
        have : k = nK X n := by omega
        subst this
        refine ⟨rfl, _, rfl, (f1.tr w2.l).up (by omega), by rw [zb_up_n (by omega)]; exact q27, fun hf => ?_⟩
        obtain ⟨r1, r2, r3, r4⟩ := recs hf
        have hf' : (stm X (aS X (nK X n))).1 = true := hf
        have al := (allR_n h.1 hf).1
        refine ⟨?_, w', by omega, fun s hs => r4 _ s (by omega)⟩
        rw [zb_up_s, hf']
        show nI (nK X n) + 1 = nI (nK X n + 1)
        exact nI_1 _
    · omega
  · intro u hu
    rcases hu with ⟨hk', -⟩ | ⟨-, M', rfl, f1, p27, q⟩
    · omega
    · have hx := f1.tx h
      refine ⟨(bI (stm X (aS X (nK X n))).1, M'), ?_, rfl, f1, p27, q⟩
      unfold sM_town_L17
      simp only []
      cases c : (stm X (aS X (nK X n))).1 with
      | false => rw [if_pos (show bI false = 0 from rfl)]
      | true =>
        have hf : allR X n := c
        have al := (allR_n h.1 hf).1
        obtain ⟨q1, -⟩ := q hf
        rw [if_neg (show ¬ bI true = 0 by decide), p27, hx.2.1, q1, al, if_neg (show ¬ nI n < nI n by rw [zb_lt (by omega) (by omega)]; omega), if_neg (show ¬ nI (nK X n + 1) = 0 by rw [← nI_0, zb_eq (by omega) (by omega)]; omega)]
end
