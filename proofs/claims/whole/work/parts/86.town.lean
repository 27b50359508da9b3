/-! a town is told -/
theorem stm_head {X : jm_X} {a : Nat} (h : (stm X a).1 = true) : X a = 112 ∨ X a = 98 ∨ X a = 114 ∨ X a = 104 ∨ X a = 108 ∨ X a = 119 := by
  refine Classical.byContradiction (fun z => ?_)
  unfold stm at h
  rw [if_neg (by omega), if_neg (by omega), if_neg (by omega), if_neg (by omega), if_neg (by omega)] at h
  cases h
theorem dgt_b {X : jm_X} {i k m : Nat} {r : Bool × Nat} (h1 : r.2 < m) (h2 : i + k < m) : (dgt X i k r).2 < m := by
  have := dC_le X k i
  unfold dgt
  split
  · exact h1
  · show i + dC X i k < m
    omega
theorem sem_b {X : jm_X} {j m : Nat} (h : j + 1 < m) : (sem X j).2 < m := by
  unfold sem
  split
  · exact h
  · show j < m
    omega
theorem tit_b {X : jm_X} {n j m : Nat} (hX : txX X n) (h : j + 98 < m) : (tit X j).2 < m := by
  have := (tW_at hX j).2.2
  unfold tit
  split
  · show j < m
    omega
  · exact sem_b (by omega)
theorem stm_b {X : jm_X} {n a : Nat} (hX : txX X n) (ha : a < 97) : (stm X a).2 < 250 := by
  have ql : qE X (a + 1) ≤ 99 + (a + 1) := qS_lt hX (by omega) (nS X (a + 1)) (Nat.le_refl _)
  have dl := dC_le X 2 (qE X (a + 1) + 1)
  unfold stm stp
  split
  · exact dgt_b (sem_b (by omega)) (by omega)
  split
  · exact dgt_b (tit_b hX (by omega)) (by omega)
  split
  · split
    · exact sem_b (by omega)
    · show qE X (a + 1) + 1 + dC X (qE X (a + 1) + 1) 2 < 250
      omega
  split
  · exact dgt_b (sem_b (by omega)) (by omega)
  split
  · exact dgt_b (tit_b hX (by omega)) (by omega)
  · show a < 250
    omega
theorem zb_m1k : ∀ q, q < 250 → (-1000 : Int32) - nI q < 0 := by decide +kernel
theorem zb_m2k : ∀ q, q < 250 → (-2000 : Int32) - nI q < 0 := by decide +kernel
section
variable {C M : jm_M} {X : jm_X} {n : Nat}
theorem ex_all {W s a : Nat} (H : exH C M X n W s a) : exA C M X a (sS_takeBody (atP C (a + 1)) (sgn (X a))) (sM_comesTold M (nI s)) := by
  have H2 := H
  obtain ⟨h, hw, hz, hr, h17, hx, hrec, hs, ha, hok⟩ := H2
  have hd := stm_head hok
  have ee : ∀ k, k ≤ 255 → (sgn (X a) = nI k) = (X a = k) := fun k hk => sgn_eq h.1 hk
  have e98 : (sgn (X a) = (98 : Int32)) = (X a = 98) := ee 98 (by omega)
  have e104 : (sgn (X a) = (104 : Int32)) = (X a = 104) := ee 104 (by omega)
  have e108 : (sgn (X a) = (108 : Int32)) = (X a = 108) := ee 108 (by omega)
  have e112 : (sgn (X a) = (112 : Int32)) = (X a = 112) := ee 112 (by omega)
  have e114 : (sgn (X a) = (114 : Int32)) = (X a = 114) := ee 114 (by omega)
  have es : nI (X a) = sgn (X a) := by unfold sgn; rw [if_neg (by omega)]
  unfold sS_takeBody sM_comesTold
  rw [show (3 : Int32) * nI s = nI (3 * s) by rw [show (3 : Int32) = nI 3 from rfl, pk_mul], zb_bs, zb_rd hs (by omega), zb_bs, hrec.1, es]
  by_cases c1 : X a = 98
  · rw [if_pos (e98.mpr c1), if_pos (e98.mpr c1)]
    exact exA_bz (ex_b H c1)
  rw [if_neg (fun z => c1 (e98.mp z)), if_neg (fun z => c1 (e98.mp z))]
  by_cases c2 : X a = 104
  · rw [if_pos (e104.mpr c2), if_pos (e104.mpr c2)]
    exact exA_bz (ex_h H c2)
  rw [if_neg (fun z => c2 (e104.mp z)), if_neg (fun z => c2 (e104.mp z))]
  by_cases c3 : X a = 108
  · rw [if_pos (e108.mpr c3), if_pos (e108.mpr c3)]
    exact exA_bz (ex_l H c3)
  rw [if_neg (fun z => c3 (e108.mp z)), if_neg (fun z => c3 (e108.mp z))]
  by_cases c4 : X a = 112
  · rw [if_pos (e112.mpr c4), if_pos (e112.mpr c4)]
    exact exA_bz (ex_p H c4)
  rw [if_neg (fun z => c4 (e112.mp z)), if_neg (fun z => c4 (e112.mp z))]
  by_cases c5 : X a = 114
  · rw [if_pos (e114.mpr c5), if_pos (e114.mpr c5)]
    exact exA_bz (ex_r H c5)
  rw [if_neg (fun z => c5 (e114.mp z)), if_neg (fun z => c5 (e114.mp z))]
  have q := exA_bz (ex_w H (by omega))
  rw [Option.bind_assoc] at q
  exact q
/-- all of a text that can be read -/
def tnH (C M : jm_M) (X : jm_X) (n W : Nat) : Prop := txC C X n ∧ txR M X n ∧ allR X n ∧ W ≤ 96 ∧ M 0 0 28 = nI (nK X n + 1) ∧ M 0 0 17 = 0 ∧ ∀ s, s ≤ nK X n → rec_ X M W s (aS X s)
def tnG (C M : jm_M) (X : jm_X) (n : Nat) (r1 : Option ((Int32 × jm_M) ⊕ (Int32 × jm_M))) (r2 : Option (jm_M ⊕ (Int32 × jm_M))) : Prop :=
  (∃ T' M', r1 = some (.inl (nI (nK X n + 1), atP (stT C 3 T') n)) ∧ r2 = some (.inl M') ∧ wfT 999 T' ∧ ZT T' ∧ TR T' (M' 0) ∧ coreF M M') ∨
  (∃ q T' p M' M1, q < 250 ∧ r1 = some (.inr (-2000 - nI q, atP (stT C 3 T') p)) ∧ r2 = some (.inr (-2000 - nI q, M1)) ∧ ZT T' ∧ coreF M M' ∧ (∀ j i, core j i → M1 0 j i = dec (M' 0 32) (135 * 1) j i) ∧ mF [2, 3, 4, 5, 6, 7, 8, 9, 10, 11, 12, 13] [13, 14, 15, 16, 33, 34] M' M1)
theorem town_loops {W : Nat} (H : tnH C M X n W) : ∀ d s N N' T M', s + d = nK X n + 1 → d < N → d < N' → wfT 999 T → ZT T → TR T (M' 0) → coreF M M' → tnG C M X n (jm_loop sS_tellTo_L31 N (nI s, atP (stT C 3 T) (aS X s))) (jm_loop sM_town_L91 N' (nI s, M')) := by
  obtain ⟨h, hx, hall, hW, h28, h17, hrec⟩ := H
  obtain ⟨a, b, k47, a96⟩ := nK_at h.1
  obtain ⟨al, fin⟩ := allR_n h.1 hall
  have hn := h.1.1
  intro d
  induction d with
  | zero =>
    intro s N N' T M' hs hN hN' hw hz hr hf
    left
    cases N with
    | zero => omega
    | succ N =>
      cases N' with
      | zero => omega
      | succ N' =>
        have : s = nK X n + 1 := by omega
        subst this
        refine ⟨T, M', ?_, ?_, hw, hz, hr, hf⟩
        · rw [jm_loop]
          unfold sS_tellTo_L31
          simp only []
          rw [if_neg (show ¬ (96 : Int32) ≤ nI (nK X n + 1) from zb_nle (a := 96) (by omega) (by omega)), atP_1, (h.st (T := T) (show ¬ 3 = 14 by omega)).2.1, atP_p, al, if_pos (zb_yle (Nat.le_refl _) (by omega))]
        · rw [jm_loop]
          unfold sM_town_L91
          simp only []
          rw [hf 0 0 28 (by simp), h28, if_pos (zb_yle (Nat.le_refl _) (by omega))]
  | succ d ih =>
    intro s N N' T M' hs hN hN' hw hz hr hf
    cases N with
    | zero => omega
    | succ N =>
      cases N' with
      | zero => omega
      | succ N' =>
        have hks : s ≤ nK X n := by omega
        have fs : (stm X (aS X s)).1 = true := fin s hks
        have hl := stm_lt h.1 fs
        have ek : rec_ X M' W s (aS X s) := (hrec s hks).rows (fun j k h1 h2 => hf 0 j k (by simp; omega))
        have hxr : txR M' X n := ⟨hx.1, fun i hi => by rw [hf 0 19 i (by simp)]; exact hx.2 i hi⟩
        have hst := h.st (T := T) (show ¬ 3 = 14 by omega)
        have HH : exH (stT C 3 T) M' X n W s (aS X s) := ⟨hst, by rw [stT_s]; exact hw, by rw [stT_s]; exact hz, by rw [stT_s]; exact hr, by rw [hf 0 0 17 (by simp)]; exact h17, hxr, ek, by omega, ⟨by omega, hW⟩, fs⟩
        obtain ⟨ok, T', p, M2, r1, r2, z2, f2, g2⟩ := ex_all HH
        rw [stT_2] at r1
        have cstep : sS_tellTo_L31 (nI s, atP (stT C 3 T) (aS X s)) = if ok = true then some (.inl (nI (s + 1), atP (stT C 3 T') (p + 1))) else some (.inr (.inr (-2000 - nI (aS X s), atP (stT C 3 T') p))) := by
          unfold sS_tellTo_L31
          simp only []
          rw [if_neg (show ¬ (96 : Int32) ≤ nI s from zb_nle (a := 96) (by omega) (by omega)), atP_1, hst.2.1, if_neg (show ¬ nI n ≤ atP (stT C 3 T) (aS X s) 14 0 2 by rw [atP_p]; exact zb_nle (by omega) (by omega)), zb_bs, S_here hst (by omega), zb_bs, atP_w, zb_bs, r1, zb_bs, nI_1]
          cases ok with
          | true => rw [if_neg (show ¬ (bI true, atP (stT C 3 T') p).1 = 0 from one_n), if_pos rfl, atP_w, zb_bs]
          | false => rw [if_pos (show (bI false, atP (stT C 3 T') p).1 = 0 from rfl), if_neg (by decide), atP_p]
        rw [jm_loop, jm_loop, cstep]
        have hM2 : M2 0 0 28 = M' 0 0 28 := f2 0 0 28 (by simp)
        cases ok with
        | true =>
          obtain ⟨g3, g4, g5⟩ := g2 rfl
          have mstep : sM_town_L91 (nI s, M') = some (.inl (nI (s + 1), M2)) := by
            unfold sM_town_L91
            simp only []
            rw [hf 0 0 28 (by simp), h28, if_neg (zb_nle (by omega) (by omega)), r2, zb_bs, if_neg (show ¬ (bI true, M2).1 = 0 from one_n), nI_1]
          rw [if_pos rfl, mstep]
          have q := ih (s + 1) N N' T' M2 (by omega) (by omega) (by omega) g4 z2 g5 (hf.tr f2)
          rw [aS_S, ← g3] at q
          exact q
        | false =>
          right
          obtain ⟨M1, y1, y2, y3⟩ := M_backAll (M := M2) (n := 1) (by omega)
          have y21 : M1 0 21 s = nI (aS X s) := by
            rw [y3 0 21 s (by simp), f2 0 21 s (by simp)]
            exact ek.2.1
          have mstep : sM_town_L91 (nI s, M') = some (.inr (.inr (-2000 - nI (aS X s), M1))) := by
            unfold sM_town_L91
            simp only []
            rw [hf 0 0 28 (by simp), h28, if_neg (zb_nle (by omega) (by omega)), r2, zb_bs, if_pos (show (bI false, M2).1 = 0 from rfl), show sM_passesAll (bI false, M2).2 1 0 = some M1 from y1, zb_bs, zb_rd (by omega) (by omega), zb_bs, y21]
          rw [if_neg (by decide), mstep]
          exact ⟨aS X s, T', p, M2, M1, by omega, rfl, rfl, z2, hf.tr f2, y2, y3⟩
/-- the texts of both are gone, and all else is as it was -/
theorem Inv_txt {C' M' : jm_M} (h : Inv C M) (hC : ∀ t, 1 ≤ t → t ≤ 13 → ¬ t = 3 → C' t = C t) (hz3 : ZT (C' 3)) (hC0 : C' 0 = C 0) (hC17 : C' 17 2 0 = C 17 2 0) (hl : C' 14 0 1 = 0) (hl2 : M' 0 0 26 = 0) (hcore : ∀ j i, core j i → M' 0 j i = M 0 j i)
    (hM : ∀ j k, ¬ ((2 ≤ j ∧ j ≤ 13) ∨ (j = 0 ∧ ((13 ≤ k ∧ k ≤ 16) ∨ (26 ≤ k ∧ k ≤ 30) ∨ k = 33 ∨ k = 34)) ∨ (20 ≤ j ∧ j ≤ 26) ∨ (j = 32 ∧ 135 ≤ k ∧ k < 269)) → M' 0 j k = M 0 j k) : Inv C' M' := by
  obtain ⟨⟨i1, i2, i3⟩, im, ⟨m, L, f, p1, p2, p3, p4, p5, p6, p7, p8⟩, -, ⟨r, r1, r2, r3, r4⟩, rf, zt, z17⟩ := h
  refine ⟨⟨?_, ?_, ?_⟩, ?_, ⟨m, L, f, p1, p2, p3, ?_, ?_, ?_, ?_, ?_⟩, ⟨0, by omega, hl, hl2, fun i hi => by omega⟩, ⟨r, r1, ?_, ?_, ?_⟩, ?_, ?_, by rw [hC17]; exact z17⟩
  · rw [hC 1 (by omega) (by omega) (by omega)]; exact i1
  · rw [hC 1 (by omega) (by omega) (by omega)]; exact TR_core i2 i1.1 hcore
  · rw [hM 0 17 (by omega)]; exact i3
  · rw [hC0, hC 2 (by omega) (by omega) (by omega), hM 0 32 (by omega)]
    rcases im with im | ⟨a1, a2, a3, a4⟩
    · exact Or.inl im
    · exact Or.inr ⟨a1, a2, a3, TR_dec a4 a3.1 (fun i h1 h2 => hM 32 i (by omega))⟩
  · rw [hC 13 (by omega) (by omega) (by omega)]; exact p4
  · rw [hC 13 (by omega) (by omega) (by omega)]; exact p5
  · rw [hM 0 36 (by omega)]; exact p6
  · rw [hM 0 35 (by omega)]; exact p7
  · intro i hi
    obtain ⟨q1, q2⟩ := p8 i hi
    rw [hC _ (by omega) (by omega) (by omega)]
    exact ⟨q1, TR_dec q2 q1.1 (fun i h1 h2 => hM 32 i (by omega))⟩
  · rw [hC0]; exact r2
  · rw [hM 0 41 (by omega)]; exact r3
  · intro i hi
    rw [hC0, hM 41 i (by omega)]
    exact r4 i hi
  · intro i hi
    rw [hC0, hM 1 i (by omega)]
    exact rf i hi
  · intro t h1 h2
    by_cases e3 : t = 3
    · subst e3; exact hz3
    · rw [hC t h1 (by omega) e3]; exact zt t h1 h2
end
