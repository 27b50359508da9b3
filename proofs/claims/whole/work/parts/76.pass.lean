/-! the class passes over a text -/
def atP (C : jm_M) (i : Nat) : jm_M := jm_up C 14 0 2 (nI i)
def txC (C : jm_M) (X : jm_X) (n : Nat) : Prop := txX X n ∧ C 14 0 1 = nI n ∧ ∀ i, i < n → C 14 1 i = nI (X i)
theorem atP_p {C : jm_M} {i : Nat} : atP C i 14 0 2 = nI i := zb_up_s
theorem atP_1 {C : jm_M} {i : Nat} : atP C i 14 0 1 = C 14 0 1 := zb_up_n (by omega)
theorem atP_r {C : jm_M} {i k : Nat} : atP C i 14 1 k = C 14 1 k := zb_up_n (by omega)
theorem atP_t {C : jm_M} {i t : Nat} (ht : ¬ t = 14) : atP C i t = C t := by
  funext a b
  exact zb_up_n (by omega)
theorem atP_2 {C : jm_M} {i j : Nat} : jm_up (atP C i) 14 0 2 (nI j) = atP C j := by
  funext a b k
  unfold atP
  by_cases h : a = 14 ∧ b = 0 ∧ k = 2
  · obtain ⟨rfl, rfl, rfl⟩ := h
    rw [zb_up_s, zb_up_s]
  · rw [zb_up_n h, zb_up_n h, zb_up_n h]
theorem atP_w {C : jm_M} {i : Nat} : jm_wf (atP C i) 14 2 (atP C i 14 0 2 + 1) = some (atP C (i + 1)) := by
  rw [wf_up, atP_p, nI_1, atP_2]
theorem atP_s {C : jm_M} {i : Nat} {T : jm_T} {t : Nat} (ht : ¬ t = 14) : stT (atP C i) t T = atP (stT C t T) i := by
  funext a b k
  unfold atP
  by_cases h : a = t
  · subst h
    rw [stT_s, zb_up_n (by omega), stT_s]
  · rw [stT_n h]
    by_cases g : a = 14 ∧ b = 0 ∧ k = 2
    · obtain ⟨rfl, rfl, rfl⟩ := g
      rw [zb_up_s, zb_up_s]
    · rw [zb_up_n g, zb_up_n g, stT_n h]
theorem txC.st {C : jm_M} {X : jm_X} {n : Nat} (h : txC C X n) {t : Nat} {T : jm_T} (ht : ¬ t = 14) : txC (stT C t T) X n := by
  refine ⟨h.1, ?_, fun i hi => ?_⟩
  · rw [stT_n (by omega)]; exact h.2.1
  · rw [stT_n (by omega)]; exact h.2.2 i hi
theorem one_n {α : Type} {M : α} : ¬ ((1 : Int32), M).1 = 0 := by
  show ¬ (1 : Int32) = 0
  decide
section
variable {C : jm_M} {X : jm_X} {n : Nat}
theorem S_here (h : txC C X n) {i : Nat} (hi : i < 1000) : sS_here (atP C i) = some (sgn (X i)) := by
  have hn := h.1.1
  unfold sS_here
  rw [atP_p, atP_1, h.2.1, if_neg (zb_nd (by omega))]
  unfold sgn
  by_cases c : i < n
  · have := h.1.2.1 i c
    rw [if_neg (zb_nle c (by omega)), zb_rd (by omega) (by omega), zb_bs, atP_r, h.2.2 i c, if_neg (by omega)]
  · rw [if_pos (zb_yle (by omega) (by omega)), if_pos (h.1.2.2 i (by omega))]
theorem S_passDigits (h : txC C X n) {i k : Nat} (hi : i < 200) (hk : k < 200) : sS_passDigits (atP C i) (nI k) = some (if dC X i k = k then 1 else 0, atP C (i + dC X i k)) := by
  have hd := dC_le X k i
  have stp : ∀ j, j < dC X i k → sS_passDigits_L2 (nI k) (nI j, atP C (i + j)) = some (.inl (nI (j + 1), atP C (i + (j + 1)))) := by
    intro j hj
    have hD := dC_dig X k i j hj
    unfold sS_passDigits_L2
    simp only []
    rw [if_neg (zb_nle (by omega) (by omega)), S_here h (by omega), zb_bs, if_neg (show ¬ sgn (X (i + j)) < (48 : Int32) by rw [show (48 : Int32) = nI 48 from rfl, sgn_lt h.1 (by omega)]; omega), zb_bs, if_pos (show sgn (X (i + j)) ≤ (57 : Int32) by rw [show (57 : Int32) = nI 57 from rfl, sgn_le h.1 (by omega)]; omega), atP_w, zb_bs, nI_1]
    rfl
  unfold sS_passDigits
  by_cases c : dC X i k = k
  · rw [if_pos c]
    refine zb_forB (fun j => (nI j, atP C (i + j))) (.inl (atP C (i + dC X i k))) (dC X i k) rfl stp ?_ (by omega) rfl
    unfold sS_passDigits_L2
    rw [if_pos (zb_yle (by omega) (by omega))]
  · rw [if_neg c]
    have hs := dC_stop X k i (by omega)
    refine zb_forB (fun j => (nI j, atP C (i + j))) (.inr (0, atP C (i + dC X i k))) (dC X i k) rfl stp ?_ (by omega) rfl
    unfold sS_passDigits_L2
    simp only []
    rw [if_neg (zb_nle (by omega) (by omega)), S_here h (by omega), zb_bs, zb_bs]
    by_cases d : X (i + dC X i k) < 48 ∨ X (i + dC X i k) = 999
    · rw [if_pos (show sgn (X (i + dC X i k)) < (48 : Int32) by rw [show (48 : Int32) = nI 48 from rfl, sgn_lt h.1 (by omega)]; exact d)]
    · rw [if_neg (show ¬ sgn (X (i + dC X i k)) < (48 : Int32) by rw [show (48 : Int32) = nI 48 from rfl, sgn_lt h.1 (by omega)]; exact d), if_neg (show ¬ sgn (X (i + dC X i k)) ≤ (57 : Int32) by rw [show (57 : Int32) = nI 57 from rfl, sgn_le h.1 (by omega)]; omega)]
theorem S_isLetter (hX : txX X n) (i : Nat) : sS_isTitleLetter (sgn (X i)) = some (if isL (X i) then 1 else 0) := by
  have a : (sgn (X i) < (97 : Int32)) = (X i < 97 ∨ X i = 999) := sgn_lt (k := 97) hX (by omega)
  have b : ((122 : Int32) < sgn (X i)) = (122 < X i ∧ ¬ X i = 999) := sgn_gt (k := 122) hX (by omega)
  unfold sS_isTitleLetter
  by_cases c : X i < 97 ∨ X i = 999
  · rw [if_pos (a.mpr c), if_neg (by omega)]
  · rw [if_neg (fun z => c (a.mp z))]
    by_cases d : 122 < X i
    · rw [if_pos (b.mpr ⟨d, fun e => c (Or.inr e)⟩), if_neg (by omega)]
    · rw [if_neg (fun z => d (b.mp z).1), if_pos (by omega)]
theorem S_passTitle (h : txC C X n) {i : Nat} (hi : i < 200) : sS_passTitle (atP C i) = some (if tW X i = 0 then 0 else 1, atP C (i + tW X i)) := by
  obtain ⟨t1, t2, t3⟩ := tW_at h.1 i
  have hn := h.1.1
  unfold sS_passTitle
  rw [S_here h (by omega), zb_bs, S_isLetter h.1, zb_bs]
  by_cases c : tW X i = 0
  · rw [c, Nat.add_zero] at t2
    rw [if_neg t2, zb_i00, if_pos c, c]
    rfl
  · have t0 := t1 0 (by omega)
    rw [Nat.add_zero] at t0
    rw [if_pos t0, zb_i10, if_neg c]
    refine zb_forB (fun j => atP C (i + j)) (atP C (i + tW X i)) (tW X i) rfl (fun j hj => ?_) ?_ (by omega) rfl
    · have hl := t1 j hj
      have hx := X_lt h.1 (show ¬ X (i + j) = 999 by omega)
      unfold sS_passTitle_L13
      rw [atP_p, atP_1, h.2.1, if_neg (zb_nle hx (by omega)), S_here h (by omega), zb_bs, S_isLetter h.1, zb_bs, if_pos hl, zb_i10, show jm_wf (atP C (i + j)) 14 2 (nI (i + j) + 1) = some (atP C (i + j + 1)) from by rw [wf_up, nI_1, atP_2], zb_bs]
      rfl
    · unfold sS_passTitle_L13
      rw [atP_p, atP_1, h.2.1, S_here h (by omega), zb_bs, S_isLetter h.1, zb_bs, if_neg t2, zb_i00, ite_self]
theorem S_stepHere (h : txC C X n) {i : Nat} (hi : i < 1000) : sS_stepHere (atP C i) = some (if stK (X i) = 8 then -9 else nI (stK (X i))) := by
  have hk := stK_le (X i)
  have ev : ∀ j, j < 8 → (jm_SL j = sgn (X i)) = (j = stK (X i)) := by
    intro j hj
    unfold sgn
    by_cases c : X i = 999
    · rw [if_pos c, c, stK_999]
      exact propext ⟨fun e => absurd e (sl_m1 j hj), fun e => by omega⟩
    · have := h.1.2.1 i (X_lt h.1 c)
      rw [if_neg c]
      exact propext (sl_at (X i) (by omega) j hj)
  have stp : ∀ j, j < 8 → sS_stepHere_L2 (atP C i) (nI j) = if j = stK (X i) then some (.inr (.inr (nI j))) else some (.inl (nI (j + 1))) := by
    intro j hj
    unfold sS_stepHere_L2
    rw [if_neg (show ¬ (8 : Int32) ≤ nI j from zb_nle (a := 8) hj (by omega)), zb_rd (by omega) (by omega), zb_bs, S_here h hi, zb_bs, nI_1]
    by_cases c : j = stK (X i)
    · rw [if_pos ((ev j hj).mpr c), if_pos c]
    · rw [if_neg (fun z => c ((ev j hj).mp z)), if_neg c]
  unfold sS_stepHere
  by_cases c : stK (X i) = 8
  · rw [if_pos c]
    refine zb_forB (fun j => nI j) (.inl ()) 8 rfl (fun j hj => ?_) ?_ (by omega) rfl
    · rw [stp j hj, if_neg (by omega)]
    · unfold sS_stepHere_L2
      rw [if_pos (show (8 : Int32) ≤ nI 8 from zb_yle (Nat.le_refl 8) (by omega))]
  · rw [if_neg c]
    refine zb_forB (fun j => nI j) (.inr (nI (stK (X i)))) (stK (X i)) rfl (fun j hj => ?_) ?_ (by omega) rfl
    · rw [stp j (by omega), if_neg (by omega)]
    · rw [stp _ (by omega), if_pos rfl]
theorem stK_59 : stK 59 = 8 := by decide
theorem nS_95 (hX : txX X n) {i : Nat} (hi : 0 < i) (hi2 : i < 200) : nS X i ≤ 95 := by
  obtain ⟨-, -, a, b⟩ := nS_at hX i
  have := hX.1
  rcases Nat.eq_zero_or_pos (nS X i) with z | z
  · omega
  · have := b z; omega
theorem qS_lt (hX : txX X n) {i : Nat} (hi : i < 200) : ∀ k, k ≤ nS X i → qS X i k ≤ 99 + i := by
  obtain ⟨g, -⟩ := nS_at hX i
  have hn := hX.1
  intro k
  induction k with
  | zero => intro _; show i ≤ 99 + i; omega
  | succ k ih =>
    intro hk
    have := gS_lt hX (g k (by omega))
    rw [qS_S]
    split <;> omega
theorem S_passSteps (h : txC C X n) {i : Nat} (hi : 0 < i) (hi2 : i < 100) : sS_passSteps (atP C i) = some (if X (qE X i) = 59 then 1 else 0, atP C (if stK (X (qE X i)) = 8 then qE X i else qE X i + 1 + dC X (qE X i + 1) 2)) := by
  obtain ⟨g1, g2, -⟩ := nS_at h.1 i
  have m95 := nS_95 h.1 hi (by omega)
  have ql := qS_lt h.1 (i := i) (by omega)
  have stp : ∀ k, k < nS X i → sS_passSteps_L2 (nI k, atP C (qS X i k)) = some (.inl (nI (k + 1), atP C (qS X i (k + 1)))) := by
    intro k hk
    obtain ⟨k1, k2⟩ := g1 k hk
    have q1 := ql k (by omega)
    have e59 : ¬ sgn (X (qS X i k)) = (59 : Int32) := by
      rw [show (59 : Int32) = nI 59 from rfl, sgn_eq h.1 (by omega)]
      intro e
      rw [e, stK_59] at k1
      omega
    unfold sS_passSteps_L2
    simp only []
    rw [if_neg (show ¬ (96 : Int32) ≤ nI k from zb_nle (a := 96) (by omega) (by omega)), S_here h (by omega), zb_bs, if_neg e59, S_stepHere h (by omega), zb_bs, if_neg (show ¬ stK (X (qS X i k)) = 8 by omega), if_neg (zb_m9 (by omega)), atP_w, zb_bs, nI_1, qS_S]
    by_cases c : stK (X (qS X i k)) < 4
    · rw [if_neg (show ¬ (4 : Int32) ≤ nI (stK (X (qS X i k))) from zb_nle (a := 4) c (by omega)), show (2 : Int32) = nI 2 from rfl, S_passDigits h (by omega) (by omega), zb_bs, k2 c, if_pos rfl, if_pos c]
      rfl
    · rw [if_pos (show (4 : Int32) ≤ nI (stK (X (qS X i k))) from zb_yle (a := 4) (by omega) (by omega)), if_neg c]
  have qe := ql (nS X i) (Nat.le_refl _)
  have kl := stK_le (X (qS X i (nS X i)))
  unfold sS_passSteps qE
  generalize hq : qS X i (nS X i) = e at *
  have tl : ∀ r : jm_M ⊕ (Int32 × jm_M), sS_passSteps_L2 (nI (nS X i), atP C e) = some (.inr r) → Option.bind (jm_loop sS_passSteps_L2 jm_N (0, atP C i)) (Sum.elim (fun e11 => some (1, e11)) some) = Sum.elim (fun e11 => some (1, e11)) some r := by
    intro r hr
    refine zb_forB (fun k => (nI k, atP C (qS X i k))) r (nS X i) rfl stp ?_ (by omega) rfl
    rw [hq]
    exact hr
  have base : sS_passSteps_L2 (nI (nS X i), atP C e) = if X e = 59 then some (.inr (.inl (atP C e))) else if stK (X e) = 8 then some (.inr (.inr (0, atP C e))) else some (.inr (.inr (0, atP C (e + 1 + dC X (e + 1) 2)))) := by
    unfold sS_passSteps_L2
    simp only []
    rw [if_neg (show ¬ (96 : Int32) ≤ nI (nS X i) from zb_nle (a := 96) (by omega) (by omega)), S_here h (by omega), zb_bs]
    have e59 : (sgn (X e) = (59 : Int32)) = (X e = 59) := sgn_eq (k := 59) h.1 (by omega)
    by_cases c : X e = 59
    · rw [if_pos (e59.mpr c), if_pos c]
    · rw [if_neg (fun z => c (e59.mp z)), if_neg c, S_stepHere h (by omega), zb_bs]
      by_cases d : stK (X e) = 8
      · rw [if_pos d, if_pos d, if_pos rfl]
      · have h4 : stK (X e) < 4 := by
          rcases Nat.lt_or_ge (stK (X e)) 4 with z | z
          · exact z
          · exact absurd ⟨by rw [hq]; omega, fun y => by rw [hq] at y; omega⟩ g2
        have hdn : ¬ dC X (e + 1) 2 = 2 := fun z => g2 ⟨by rw [hq]; omega, fun _ => by rw [hq]; exact z⟩
        rw [if_neg d, if_neg d, if_neg (zb_m9 (by omega)), atP_w, zb_bs, if_neg (show ¬ (4 : Int32) ≤ nI (stK (X e)) from zb_nle (a := 4) h4 (by omega)), show (2 : Int32) = nI 2 from rfl, S_passDigits h (by omega) (by omega), zb_bs, if_neg hdn, if_pos rfl]
  by_cases c : X e = 59
  · rw [if_pos c] at base
    rw [tl _ base, if_pos c, c, stK_59, if_pos rfl]
    rfl
  · rw [if_neg c] at base
    rw [if_neg c]
    by_cases d : stK (X e) = 8
    · rw [if_pos d] at base
      rw [tl _ base, if_pos d]
      rfl
    · rw [if_neg d] at base
      rw [tl _ base, if_neg d]
      rfl
theorem S_semi (h : txC C X n) {j : Nat} (hj : j < 1000) : (sS_passLetter (atP C j) 59).bind (fun r6 => if r6.1 = 0 then some (0, r6.2) else some (1, r6.2)) = some (bI (sem X j).1, atP C (sem X j).2) := by
  have e59 : (sgn (X j) = (59 : Int32)) = (X j = 59) := sgn_eq (k := 59) h.1 (by omega)
  unfold sS_passLetter sem
  rw [S_here h hj, zb_bs]
  by_cases c : X j = 59
  · rw [if_pos (e59.mpr c), if_pos c, atP_w, zb_bs, zb_bs]
    rfl
  · rw [if_neg (fun z => c (e59.mp z)), if_neg c, zb_bs]
    rfl
/-- a whole statement, behind its first letter -/
theorem S_pass (h : txC C X n) {i : Nat} (hi : i < 97) (hd : X i = 112 ∨ X i = 98 ∨ X i = 114 ∨ X i = 104 ∨ X i = 108 ∨ X i = 119) : (sS_passBody (atP C (i + 1)) (sgn (X i))).bind (fun r4 => if r4.1 = 0 then some (0, r4.2) else (sS_passLetter r4.2 59).bind (fun r6 => if r6.1 = 0 then some (0, r6.2) else some (1, r6.2))) = some (bI (stm X i).1, atP C (stm X i).2) := by
  have ee : ∀ k, k ≤ 255 → (sgn (X i) = nI k) = (X i = k) := fun k hk => sgn_eq h.1 hk
  have e98 : (sgn (X i) = (98 : Int32)) = (X i = 98) := ee 98 (by omega)
  have e108 : (sgn (X i) = (108 : Int32)) = (X i = 108) := ee 108 (by omega)
  have e112 : (sgn (X i) = (112 : Int32)) = (X i = 112) := ee 112 (by omega)
  have e119 : (sgn (X i) = (119 : Int32)) = (X i = 119) := ee 119 (by omega)
  have tw := fun j => (tW_at h.1 j).2.2
  have ttl : ∀ j, j < 110 → ((if tW X j = 0 then (0 : Int32) else 1, atP C (j + tW X j)).1 = 0 → some (bI (tit X j).1, atP C (tit X j).2) = some ((0 : Int32), atP C (j + tW X j))) ∧ (¬ (if tW X j = 0 then (0 : Int32) else 1, atP C (j + tW X j)).1 = 0 → some (bI (tit X j).1, atP C (tit X j).2) = some (bI (sem X (j + tW X j)).1, atP C (sem X (j + tW X j)).2)) := by
    intro j hj
    unfold tit
    by_cases c : tW X j = 0
    · rw [if_pos c, if_pos c, c]
      exact ⟨fun _ => rfl, fun z => absurd rfl z⟩
    · rw [if_neg c, if_neg c]
      exact ⟨fun z => absurd z one_n, fun _ => rfl⟩
  unfold sS_passBody stm dgt
  by_cases c1 : X i = 98
  · rw [if_pos (e98.mpr c1), if_neg (show ¬ X i = 112 by omega), if_pos c1, show (3 : Int32) = nI 3 from rfl, S_passDigits h (by omega) (by omega), zb_bs]
    by_cases d : dC X (i + 1) 3 = 3
    · rw [if_pos d, if_neg one_n, if_pos d, d, S_passTitle h (by omega), zb_bs]
      obtain ⟨t1, t2⟩ := ttl (i + 1 + 3) (by omega)
      by_cases f : tW X (i + 1 + 3) = 0
      · have t1 := t1 (if_pos f)
        rw [if_pos f, if_pos rfl, zb_bs, if_pos rfl]
        exact t1.symm
      · have t2 := t2 (by show ¬ (if tW X (i + 1 + 3) = 0 then (0 : Int32) else 1) = 0; rw [if_neg f]; decide)
        rw [if_neg f, if_neg one_n, zb_bs, if_neg one_n]
        have s := S_semi h (j := i + 1 + 3 + tW X (i + 1 + 3)) (by have := tw (i + 1 + 3); omega)
        rw [← t2] at s
        exact s
    · rw [if_neg d, if_pos rfl, zb_bs, if_pos rfl, if_neg d]
      rfl
  · rw [if_neg (fun z => c1 (e98.mp z))]
    by_cases c2 : X i = 108
    · rw [if_pos (e108.mpr c2), if_neg (show ¬ X i = 112 by omega), if_neg c1, if_pos c2, S_passSteps h (by omega) (by omega), zb_bs]
      have q := qS_lt h.1 (i := i + 1) (by omega) (nS X (i + 1)) (Nat.le_refl _)
      unfold stp
      by_cases d : X (qE X (i + 1)) = 59
      · rw [if_pos d, d, stK_59, if_pos rfl, if_pos rfl]
        have s := S_semi h (j := qE X (i + 1)) (by unfold qE; omega)
        rw [show ∀ M : jm_M, jm_bz ((1 : Int32), M).1 = some 1 from fun _ => rfl, zb_bs, zb_bs, if_neg one_n]
        exact s
      · rw [if_neg d]
        by_cases f : stK (X (qE X (i + 1))) = 8
        · rw [if_pos f, if_pos f]
          unfold sem
          rw [if_neg d]
          rfl
        · rw [if_neg f, if_neg f]
          rfl
    · rw [if_neg (fun z => c2 (e108.mp z))]
      by_cases c3 : X i = 112
      · rw [if_pos (e112.mpr c3), if_pos c3, show (5 : Int32) = nI 5 from rfl, S_passDigits h (by omega) (by omega), zb_bs]
        by_cases d : dC X (i + 1) 5 = 5
        · rw [if_pos d, d, if_pos rfl]
          have s := S_semi h (j := i + 1 + 5) (by omega)
          rw [show ∀ M : jm_M, jm_bz ((1 : Int32), M).1 = some 1 from fun _ => rfl, zb_bs, zb_bs, if_neg one_n]
          exact s
        · rw [if_neg d, if_neg d]
          rfl
      · rw [if_neg (fun z => c3 (e112.mp z)), if_neg c3, if_neg c1, if_neg c2]
        by_cases c4 : X i = 119
        · rw [if_pos (e119.mpr c4), if_pos c4, show (2 : Int32) = nI 2 from rfl, S_passDigits h (by omega) (by omega), zb_bs]
          by_cases d : dC X (i + 1) 2 = 2
          · rw [if_pos d, d, if_pos rfl]
            have s := S_semi h (j := i + 1 + 2) (by omega)
            rw [show ∀ M : jm_M, jm_bz ((1 : Int32), M).1 = some 1 from fun _ => rfl, zb_bs, zb_bs, if_neg one_n]
            exact s
          · rw [if_neg d, if_neg d]
            rfl
        · rw [if_neg (fun z => c4 (e119.mp z)), if_neg c4, if_pos (by omega), show sS_passDigits (atP C (i + 1)) 1 = _ from S_passDigits (k := 1) h (by omega) (by omega), zb_bs]
          by_cases d : dC X (i + 1) 1 = 1
          · rw [if_pos d, if_neg one_n, if_pos d, d, S_passTitle h (by omega), zb_bs]
            obtain ⟨t1, t2⟩ := ttl (i + 1 + 1) (by omega)
            by_cases f : tW X (i + 1 + 1) = 0
            · have t1 := t1 (if_pos f)
              rw [if_pos f, if_pos rfl, zb_bs, if_pos rfl]
              exact t1.symm
            · have t2 := t2 (by show ¬ (if tW X (i + 1 + 1) = 0 then (0 : Int32) else 1) = 0; rw [if_neg f]; decide)
              rw [if_neg f, if_neg one_n, zb_bs, if_neg one_n]
              have s := S_semi h (j := i + 1 + 1 + tW X (i + 1 + 1)) (by have := tw (i + 1 + 1); omega)
              rw [← t2] at s
              exact s
          · rw [if_neg d, if_pos rfl, zb_bs, if_pos rfl, if_neg d]
            rfl
theorem S_passStatement (h : txC C X n) {i : Nat} (hi : i < 97) : sS_passStatement (atP C i) = some (bI (stm X i).1, atP C (stm X i).2) := by
  have ee : ∀ k, k ≤ 255 → (sgn (X i) = nI k) = (X i = k) := fun k hk => sgn_eq h.1 hk
  have e98 : (sgn (X i) = (98 : Int32)) = (X i = 98) := ee 98 (by omega)
  have e104 : (sgn (X i) = (104 : Int32)) = (X i = 104) := ee 104 (by omega)
  have e108 : (sgn (X i) = (108 : Int32)) = (X i = 108) := ee 108 (by omega)
  have e112 : (sgn (X i) = (112 : Int32)) = (X i = 112) := ee 112 (by omega)
  have e114 : (sgn (X i) = (114 : Int32)) = (X i = 114) := ee 114 (by omega)
  have e119 : (sgn (X i) = (119 : Int32)) = (X i = 119) := ee 119 (by omega)
  unfold sS_passStatement
  rw [S_here h (by omega), zb_bs, atP_w, zb_bs]
  by_cases c1 : X i = 112
  · rw [if_pos (e112.mpr c1)]
    exact S_pass h hi (by omega)
  rw [if_neg (fun z => c1 (e112.mp z))]
  by_cases c2 : X i = 98
  · rw [if_pos (e98.mpr c2)]
    exact S_pass h hi (by omega)
  rw [if_neg (fun z => c2 (e98.mp z))]
  by_cases c3 : X i = 114
  · rw [if_pos (e114.mpr c3)]
    exact S_pass h hi (by omega)
  rw [if_neg (fun z => c3 (e114.mp z))]
  by_cases c4 : X i = 104
  · rw [if_pos (e104.mpr c4)]
    exact S_pass h hi (by omega)
  rw [if_neg (fun z => c4 (e104.mp z))]
  by_cases c5 : X i = 108
  · rw [if_pos (e108.mpr c5)]
    exact S_pass h hi (by omega)
  rw [if_neg (fun z => c5 (e108.mp z))]
  by_cases c6 : X i = 119
  · rw [if_pos (e119.mpr c6)]
    exact S_pass h hi (by omega)
  rw [if_neg (fun z => c6 (e119.mp z))]
  unfold stm
  rw [if_neg c1, if_neg c2, if_neg c5, if_neg c6, if_neg (by omega)]
  rfl
end
