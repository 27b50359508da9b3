/-! the reference reads a statement: its body, its end -/
def recB (X : jm_X) (M : jm_M) (W s a : Nat) : Prop :=
  (X a = 112 → M 0 22 (3 * s) = nI (nm X (a + 1) 2) ∧ M 0 22 (3 * s + 1) = nI (nm X (a + 3) 1) ∧ M 0 22 (3 * s + 2) = nI (nm X (a + 4) 2)) ∧
  (X a = 98 → M 0 22 (3 * s) = nI (nm X (a + 1) 1) ∧ M 0 22 (3 * s + 1) = nI (nm X (a + 2) 1) ∧ M 0 22 (3 * s + 2) = nI (nm X (a + 3) 1) ∧ M 0 23 s = nI (a + 4) ∧ M 0 24 s = nI (tW X (a + 4))) ∧
  (X a = 114 ∨ X a = 104 → M 0 22 (3 * s) = nI (nm X (a + 1) 1) ∧ M 0 23 s = nI (a + 2) ∧ M 0 24 s = nI (tW X (a + 2))) ∧
  (X a = 119 → M 0 22 (3 * s) = nI (nm X (a + 1) 2)) ∧
  (X a = 108 → ∃ w, M 0 23 s = nI w ∧ w + nS X (a + 1) ≤ W ∧ M 0 24 s = nI (nS X (a + 1)) ∧ ∀ k, k < nS X (a + 1) → M 0 25 (w + k) = nI (stK (X (qS X (a + 1) k))) ∧ M 0 26 (w + k) = nI (sN X (qS X (a + 1) k)))
def rdA (X : jm_X) (M : jm_M) (s w a : Nat) (r : Option (Int32 × jm_M)) : Prop := ∃ ok j M' w', r = some (bI ok, M') ∧ wrS s w M M' ∧ M' 0 0 27 = nI j ∧ stm X a = (if ok = true then sem X j else (false, j)) ∧ j < 900 ∧ (ok = true → M' 0 0 30 = nI w' ∧ w ≤ w' ∧ w' ≤ j ∧ recB X M' w' s a)
section
variable {M : jm_M} {X : jm_X} {n : Nat}
theorem rdA_no {s w a j : Nat} {M' : jm_M} (h1 : wrS s w M M') (h2 : M' 0 0 27 = nI j) (h3 : stm X a = (false, j)) (hj : j < 900) : rdA X M s w a (some (0, M')) :=
  ⟨false, j, M', 0, rfl, h1, h2, by rw [if_neg (by decide)]; exact h3, hj, fun z => by cases z⟩
theorem rdA_yes {s w w' a j : Nat} {M' : jm_M} (h1 : wrS s w M M') (h2 : M' 0 0 27 = nI j) (h3 : stm X a = sem X j) (hj : j < 900) (h4 : M' 0 0 30 = nI w') (h5 : w ≤ w') (h6 : w' ≤ j) (h7 : recB X M' w' s a) : rdA X M s w a (some (1, M')) :=
  ⟨true, j, M', w', rfl, h1, h2, by rw [if_pos rfl]; exact h3, hj, fun _ => ⟨h4, h5, h6, h7⟩⟩
theorem rdA_bz {s w a : Nat} {r : Option (Int32 × jm_M)} (h : rdA X M s w a r) : rdA X M s w a (r.bind (fun r => (jm_bz r.1).bind (fun x => some (x, r.2)))) := by
  obtain ⟨ok, j, M', w', rfl, h⟩ := h
  rw [zb_bs]
  simp only [bI_z]
  rw [zb_bs]
  exact ⟨ok, j, M', w', rfl, h⟩
theorem rdA_if {s w a : Nat} {r : Option (Int32 × jm_M)} (h : rdA X M s w a r) : rdA X M s w a (r.bind (fun r => if r.1 = 0 then some (0, r.2) else some (1, r.2))) := by
  obtain ⟨ok, j, M', w', rfl, h⟩ := h
  rw [zb_bs]
  cases ok with
  | true => rw [if_neg (show ¬ (bI true, M').1 = 0 from one_n)]; exact ⟨true, j, M', w', rfl, h⟩
  | false => rw [if_pos (show (bI false, M').1 = 0 from rfl)]; exact ⟨false, j, M', w', rfl, h⟩
theorem A_p (h : txM M X n) {a s w : Nat} (ha : a < 100) (hd : X a = 112) (hp : M 0 0 27 = nI (a + 1)) (ht : M 0 0 29 = nI (3 * s)) (hs : s < 49) (h30 : M 0 0 30 = nI w) (hw : w ≤ a) : rdA X M s w a ((sM_readsDigits M 2).bind (fun r20 => if r20.1 = 0 then some (0, r20.2) else (sM_readsDigits r20.2 1).bind (fun r22 => if r22.1 = 0 then some (0, r22.2) else (sM_readsDigits r22.2 2).bind (fun r24 => if r24.1 = 0 then some (0, r24.2) else some (1, r24.2))))) := by
  have es : stm X a = dgt X (a + 1) 5 (sem X (a + 6)) := by unfold stm; rw [if_pos hd]
  have a5 : dC X (a + 1) 5 = if dC X (a + 1) 2 = 2 then 2 + dC X (a + 1 + 2) 3 else dC X (a + 1) 2 := dC_add X 3 2 (a + 1)
  have a3 : dC X (a + 1 + 2) 3 = if dC X (a + 1 + 2) 1 = 1 then 1 + dC X (a + 1 + 2 + 1) 2 else dC X (a + 1 + 2) 1 := dC_add X 2 1 (a + 1 + 2)
  have l1 := dC_le X 2 (a + 1)
  have l2 := dC_le X 1 (a + 1 + 2)
  have l3 := dC_le X 2 (a + 1 + 2 + 1)
  unfold dgt at es
  obtain ⟨M1, m1, w1, p1, t1, u1, v1, x1⟩ := M_readsDigits (k := 2) (s := s) (w := w) h (by omega) (by omega) hp ht (by omega) (by omega) (by omega)
  have m1' : sM_readsDigits M 2 = _ := m1
  rw [m1', zb_bs]
  by_cases c1 : dC X (a + 1) 2 = 2
  · rw [if_pos c1] at a5
    rw [if_pos c1, if_neg one_n]
    rw [c1] at p1
    obtain ⟨M2, m2, w2, p2, t2, u2, v2, x2⟩ := M_readsDigits (k := 1) (s := s) (w := w) (w1.tx h) (by omega) (by omega) p1 t1 (by omega) (by omega) (by omega)
    have m2' : sM_readsDigits (1, M1).2 1 = _ := m2
    rw [m2', zb_bs]
    by_cases c2 : dC X (a + 1 + 2) 1 = 1
    · rw [if_pos c2] at a3
      rw [if_pos c2, if_neg one_n]
      rw [c2] at p2
      obtain ⟨M3, m3, w3, p3, t3, u3, v3, x3⟩ := M_readsDigits (k := 2) (s := s) (w := w) (w2.tx (w1.tx h)) (by omega) (by omega) p2 t2 (by omega) (by omega) (by omega)
      have m3' : sM_readsDigits (1, M2).2 2 = _ := m3
      rw [m3', zb_bs]
      by_cases c3 : dC X (a + 1 + 2 + 1) 2 = 2
      · rw [if_pos c3, if_neg one_n]
        rw [c3] at p3
        rw [if_pos (by omega)] at es
        refine rdA_yes (M' := M3) (w' := w) (j := a + 6) ((w1.tr w2).tr w3) p3 es (by omega) (by rw [u3, u2, u1]; exact h30) (Nat.le_refl _) (by omega) ⟨fun _ => ⟨?_, ?_, ?_⟩, fun z => by omega, fun z => by omega, fun z => by omega, fun z => by omega⟩
        · rw [x3 _ (by omega), x2 _ (by omega)]; exact v1 c1
        · rw [x3 _ (by omega)]; exact v2 c2
        · exact v3 c3
      · rw [if_neg c3, if_pos rfl]
        rw [if_neg (by omega)] at es
        refine rdA_no ((w1.tr w2).tr w3) p3 (es.trans ?_) (by omega)
        rw [a5, a3]
        congr 1
        omega
    · rw [if_neg c2] at a3
      rw [if_neg c2, if_pos rfl]
      rw [if_neg (by omega)] at es
      refine rdA_no (w1.tr w2) p2 (es.trans ?_) (by omega)
      rw [a5, a3]
      congr 1
      omega
  · rw [if_neg c1] at a5
    rw [if_neg c1, if_pos rfl]
    rw [if_neg (by omega)] at es
    refine rdA_no w1 p1 (es.trans ?_) (by omega)
    rw [a5]
/-- the title at the end of a body -/
theorem A_tit (h : txM M X n) {a i s w : Nat} {M0 : jm_M} (hi : i < 200) (hst : stm X a = tit X i) (hw0 : wrS s w M0 M) (hp : M 0 0 27 = nI i) (h28 : M 0 0 28 = nI s) (hs : s < 49) (h30 : M 0 0 30 = nI w) (hw : w ≤ i) (hB : ∀ M', (∀ x, M' 0 22 x = M 0 22 x) → M' 0 23 s = nI i → M' 0 24 s = nI (tW X i) → recB X M' w s a) : rdA X M0 s w a ((sM_readsTitle M).bind (fun r4 => if r4.1 = 0 then some (0, r4.2) else some (1, r4.2))) := by
  obtain ⟨M1, m1, w1, p1, u1, s1, s2, x1⟩ := M_readsTitle (w := w) h hi hp h28 hs
  have tl := (tW_at h.1 i).2.2
  rw [m1, zb_bs]
  unfold tit at hst
  by_cases c : tW X i = 0
  · rw [if_pos c, if_pos rfl]
    rw [if_pos c] at hst
    rw [c] at p1
    exact rdA_no (hw0.tr w1) p1 hst (by omega)
  · rw [if_neg c, if_neg one_n]
    rw [if_neg c] at hst
    exact rdA_yes (M' := M1) (hw0.tr w1) p1 hst (by omega) (by rw [u1]; exact h30) (Nat.le_refl _) (by omega) (hB M1 x1 s1 s2)
theorem A_r (h : txM M X n) {a s w : Nat} (ha : a < 100) (hd : X a = 114 ∨ X a = 104) (hp : M 0 0 27 = nI (a + 1)) (ht : M 0 0 29 = nI (3 * s)) (h28 : M 0 0 28 = nI s) (hs : s < 49) (h30 : M 0 0 30 = nI w) (hw : w ≤ a) : rdA X M s w a ((sM_readsDigits M 1).bind (fun r27 => if r27.1 = 0 then some (0, r27.2) else (sM_readsTitle r27.2).bind (fun r29 => if r29.1 = 0 then some (0, r29.2) else some (1, r29.2)))) := by
  have es : stm X a = dgt X (a + 1) 1 (tit X (a + 2)) := by unfold stm; rw [if_neg (by omega), if_neg (by omega), if_neg (by omega), if_neg (by omega), if_pos hd]
  have l1 := dC_le X 1 (a + 1)
  unfold dgt at es
  obtain ⟨M1, m1, w1, p1, t1, u1, v1, x1⟩ := M_readsDigits (k := 1) (s := s) (w := w) h (by omega) (by omega) hp ht (by omega) (by omega) (by omega)
  have m1' : sM_readsDigits M 1 = _ := m1
  rw [m1', zb_bs]
  by_cases c1 : dC X (a + 1) 1 = 1
  · rw [if_pos c1, if_neg one_n]
    rw [c1] at p1
    rw [if_pos c1] at es
    refine A_tit (w1.tx h) (i := a + 2) (by omega) es w1 p1 (by rw [w1 0 0 28 (by omega)]; exact h28) hs (by rw [u1]; exact h30) (by omega) (fun M' y1 y2 y3 => ⟨fun z => by omega, fun z => by omega, fun _ => ⟨by rw [y1]; exact v1 c1, y2, y3⟩, fun z => by omega, fun z => by omega⟩)
  · rw [if_neg c1, if_pos rfl]
    rw [if_neg c1] at es
    exact rdA_no w1 p1 es (by omega)
theorem A_b (h : txM M X n) {a s w : Nat} (ha : a < 100) (hd : X a = 98) (hp : M 0 0 27 = nI (a + 1)) (ht : M 0 0 29 = nI (3 * s)) (h28 : M 0 0 28 = nI s) (hs : s < 49) (h30 : M 0 0 30 = nI w) (hw : w ≤ a) : rdA X M s w a ((sM_readsDigits M 1).bind (fun r2 => if r2.1 = 0 then some (0, r2.2) else (sM_readsDigits r2.2 1).bind (fun r4 => if r4.1 = 0 then some (0, r4.2) else (sM_readsDigits r4.2 1).bind (fun r6 => if r6.1 = 0 then some (0, r6.2) else (sM_readsTitle r6.2).bind (fun r8 => if r8.1 = 0 then some (0, r8.2) else some (1, r8.2)))))) := by
  have es : stm X a = dgt X (a + 1) 3 (tit X (a + 4)) := by unfold stm; rw [if_neg (by omega), if_pos hd]
  have a3 : dC X (a + 1) 3 = if dC X (a + 1) 1 = 1 then 1 + dC X (a + 1 + 1) 2 else dC X (a + 1) 1 := dC_add X 2 1 (a + 1)
  have a2 : dC X (a + 1 + 1) 2 = if dC X (a + 1 + 1) 1 = 1 then 1 + dC X (a + 1 + 1 + 1) 1 else dC X (a + 1 + 1) 1 := dC_add X 1 1 (a + 1 + 1)
  have l1 := dC_le X 1 (a + 1)
  have l2 := dC_le X 1 (a + 1 + 1)
  have l3 := dC_le X 1 (a + 1 + 1 + 1)
  unfold dgt at es
  obtain ⟨M1, m1, w1, p1, t1, u1, v1, x1⟩ := M_readsDigits (k := 1) (s := s) (w := w) h (by omega) (by omega) hp ht (by omega) (by omega) (by omega)
  have m1' : sM_readsDigits M 1 = _ := m1
  rw [m1', zb_bs]
  by_cases c1 : dC X (a + 1) 1 = 1
  · rw [if_pos c1] at a3
    rw [if_pos c1, if_neg one_n]
    rw [c1] at p1
    obtain ⟨M2, m2, w2, p2, t2, u2, v2, x2⟩ := M_readsDigits (k := 1) (s := s) (w := w) (w1.tx h) (by omega) (by omega) p1 t1 (by omega) (by omega) (by omega)
    have m2' : sM_readsDigits (1, M1).2 1 = _ := m2
    rw [m2', zb_bs]
    by_cases c2 : dC X (a + 1 + 1) 1 = 1
    · rw [if_pos c2] at a2
      rw [if_pos c2, if_neg one_n]
      rw [c2] at p2
      obtain ⟨M3, m3, w3, p3, t3, u3, v3, x3⟩ := M_readsDigits (k := 1) (s := s) (w := w) (w2.tx (w1.tx h)) (by omega) (by omega) p2 t2 (by omega) (by omega) (by omega)
      have m3' : sM_readsDigits (1, M2).2 1 = _ := m3
      rw [m3', zb_bs]
      by_cases c3 : dC X (a + 1 + 1 + 1) 1 = 1
      · rw [if_pos c3, if_neg one_n]
        rw [c3] at p3
        rw [if_pos (by omega)] at es
        refine A_tit (w3.tx (w2.tx (w1.tx h))) (i := a + 4) (by omega) es ((w1.tr w2).tr w3) p3 (by rw [w3 0 0 28 (by omega), w2 0 0 28 (by omega), w1 0 0 28 (by omega)]; exact h28) hs (by rw [u3, u2, u1]; exact h30) (by omega) (fun M' y1 y2 y3 => ⟨fun z => by omega, fun _ => ⟨?_, ?_, ?_, y2, y3⟩, fun z => by omega, fun z => by omega, fun z => by omega⟩)
        · rw [y1, x3 _ (by omega), x2 _ (by omega)]; exact v1 c1
        · rw [y1, x3 _ (by omega)]; exact v2 c2
        · rw [y1]; exact v3 c3
      · rw [if_neg c3, if_pos rfl]
        rw [if_neg (by omega)] at es
        refine rdA_no ((w1.tr w2).tr w3) p3 (es.trans ?_) (by omega)
        rw [a3, a2]
        congr 1
        omega
    · rw [if_neg c2] at a2
      rw [if_neg c2, if_pos rfl]
      rw [if_neg (by omega)] at es
      refine rdA_no (w1.tr w2) p2 (es.trans ?_) (by omega)
      rw [a3, a2]
      congr 1
      omega
  · rw [if_neg c1] at a3
    rw [if_neg c1, if_pos rfl]
    rw [if_neg (by omega)] at es
    refine rdA_no w1 p1 (es.trans ?_) (by omega)
    rw [a3]
theorem A_w (h : txM M X n) {a s w : Nat} (ha : a < 100) (hd : X a = 119) (hp : M 0 0 27 = nI (a + 1)) (ht : M 0 0 29 = nI (3 * s)) (hs : s < 49) (h30 : M 0 0 30 = nI w) (hw : w ≤ a) : rdA X M s w a (sM_readsDigits M 2) := by
  have es : stm X a = dgt X (a + 1) 2 (sem X (a + 3)) := by unfold stm; rw [if_neg (by omega), if_neg (by omega), if_neg (by omega), if_pos hd]
  have l1 := dC_le X 2 (a + 1)
  unfold dgt at es
  obtain ⟨M1, m1, w1, p1, t1, u1, v1, x1⟩ := M_readsDigits (k := 2) (s := s) (w := w) h (by omega) (by omega) hp ht (by omega) (by omega) (by omega)
  have m1' : sM_readsDigits M 2 = _ := m1
  rw [m1']
  by_cases c1 : dC X (a + 1) 2 = 2
  · rw [if_pos c1]
    rw [c1] at p1
    rw [if_pos c1] at es
    exact rdA_yes (M' := M1) (w' := w) w1 p1 es (by omega) (by rw [u1]; exact h30) (Nat.le_refl _) (by omega) ⟨fun z => by omega, fun z => by omega, fun z => by omega, fun _ => v1 c1, fun z => by omega⟩
  · rw [if_neg c1]
    rw [if_neg c1] at es
    exact rdA_no w1 p1 es (by omega)
theorem A_l (h : txM M X n) {a s w : Nat} (ha : a < 99) (hd : X a = 108) (hp : M 0 0 27 = nI (a + 1)) (h28 : M 0 0 28 = nI s) (hs : s < 49) (h30 : M 0 0 30 = nI w) (hw : w ≤ a) : rdA X M s w a (sM_readsSteps M) := by
  have es : stm X a = stp X (a + 1) := by unfold stm; rw [if_neg (by omega), if_neg (by omega), if_pos hd]
  obtain ⟨M1, m1, w1, p1, f1⟩ := M_readsSteps (i := a + 1) (w := w) h (by omega) (by omega) (by omega) hp h28 hs h30
  have ql : qE X (a + 1) ≤ 99 + (a + 1) := qS_lt h.1 (by omega) (nS X (a + 1)) (Nat.le_refl _)
  have qg : a + 1 + nS X (a + 1) ≤ qE X (a + 1) := qS_le X (a + 1) (nS X (a + 1))
  have dl := dC_le X 2 (qE X (a + 1) + 1)
  unfold stp at es
  rw [m1]
  by_cases c : stK (X (qE X (a + 1))) = 8
  · rw [if_pos c]
    rw [if_pos c] at p1 es
    obtain ⟨f2, f3, f4, f5⟩ := f1 c
    exact rdA_yes w1 p1 es (by omega) f2 (by omega) (by omega) ⟨fun z => by omega, fun z => by omega, fun z => by omega, fun z => by omega, fun _ => ⟨w, f3, Nat.le_refl _, f4, f5⟩⟩
  · rw [if_neg c]
    rw [if_neg c] at p1 es
    exact rdA_no w1 p1 es (by omega)
theorem M_readsAll (h : txM M X n) {a s w : Nat} (ha : a < 97) (hd : X a = 112 ∨ X a = 98 ∨ X a = 114 ∨ X a = 104 ∨ X a = 108 ∨ X a = 119) (hp : M 0 0 27 = nI (a + 1)) (ht : M 0 0 29 = nI (3 * s)) (h28 : M 0 0 28 = nI s) (hs : s < 49) (h30 : M 0 0 30 = nI w) (hw : w ≤ a) : rdA X M s w a (sM_readsAll M (sgn (X a))) := by
  have ee : ∀ k, k ≤ 255 → (sgn (X a) = nI k) = (X a = k) := fun k hk => sgn_eq h.1 hk
  have e98 : (sgn (X a) = (98 : Int32)) = (X a = 98) := ee 98 (by omega)
  have e104 : (sgn (X a) = (104 : Int32)) = (X a = 104) := ee 104 (by omega)
  have e108 : (sgn (X a) = (108 : Int32)) = (X a = 108) := ee 108 (by omega)
  have e112 : (sgn (X a) = (112 : Int32)) = (X a = 112) := ee 112 (by omega)
  have e114 : (sgn (X a) = (114 : Int32)) = (X a = 114) := ee 114 (by omega)
  unfold sM_readsAll
  by_cases c1 : X a = 98
  · rw [if_pos (e98.mpr c1)]
    exact A_b h (by omega) c1 hp ht h28 hs h30 hw
  rw [if_neg (fun z => c1 (e98.mp z))]
  by_cases c2 : X a = 104
  · rw [if_pos (e104.mpr c2)]
    exact A_r h (by omega) (Or.inr c2) hp ht h28 hs h30 hw
  rw [if_neg (fun z => c2 (e104.mp z))]
  by_cases c3 : X a = 108
  · rw [if_pos (e108.mpr c3)]
    exact rdA_bz (A_l h (by omega) c3 hp h28 hs h30 hw)
  rw [if_neg (fun z => c3 (e108.mp z))]
  by_cases c4 : X a = 112
  · rw [if_pos (e112.mpr c4)]
    exact A_p h (by omega) c4 hp ht hs h30 hw
  rw [if_neg (fun z => c4 (e112.mp z))]
  by_cases c5 : X a = 114
  · rw [if_pos (e114.mpr c5)]
    exact A_r h (by omega) (Or.inl c5) hp ht h28 hs h30 hw
  rw [if_neg (fun z => c5 (e114.mp z))]
  exact rdA_bz (A_w h (by omega) (by omega) hp ht hs h30 hw)
def stS (X : jm_X) (M : jm_M) (s w a : Nat) (r : Option (Int32 × jm_M)) : Prop := ∃ M' w', r = some (bI (stm X a).1, M') ∧ wrT s w M M' ∧ M' 0 0 27 = nI (stm X a).2 ∧ ((stm X a).1 = true → M' 0 0 30 = nI w' ∧ w ≤ w' ∧ w' ≤ (stm X a).2 ∧ rec_ X M' w' s a)
theorem M_stmK (h : txM M X n) {a s w : Nat} (ha : a < 97) (hd : X a = 112 ∨ X a = 98 ∨ X a = 114 ∨ X a = 104 ∨ X a = 108 ∨ X a = 119) (hp : M 0 0 27 = nI a) (h28 : M 0 0 28 = nI s) (hs : s < 49) (h30 : M 0 0 30 = nI w) (hw : w ≤ a) : stS X M s w a ((jm_wa 49 M 0 20 (M 0 0 28) (sgn (X a))).bind (fun M3 => (jm_wa 49 M3 0 21 (M3 0 0 28) (M3 0 0 27)).bind (fun M4 => (jm_wf M4 0 29 (3 * (M4 0 0 28))).bind (fun M5 => (jm_wf M5 0 27 ((M5 0 0 27) + 1)).bind (fun M6 => (sM_readsAll M6 (sgn (X a))).bind (fun r7 => if r7.1 = 0 then some (0, r7.2) else (sM_sign r7.2).bind (fun r9 => if r9 = 59 then (jm_wf r7.2 0 27 ((r7.2 0 0 27) + 1)).bind (fun M11 => some (1, M11)) else some (0, r7.2)))))))) := by
  have hx9 : ¬ X a = 999 := by omega
  rw [h28, zb_wa hs (by omega), zb_bs, zb_up_n (show ¬ (0 = 0 ∧ 0 = 20 ∧ 28 = s) by omega), h28, zb_up_n (show ¬ (0 = 0 ∧ 0 = 20 ∧ 27 = s) by omega), hp, zb_wa hs (by omega), zb_bs, zb_up_n (show ¬ (0 = 0 ∧ 0 = 21 ∧ 28 = s) by omega), zb_up_n (show ¬ (0 = 0 ∧ 0 = 20 ∧ 28 = s) by omega), h28, show (3 : Int32) * nI s = nI (3 * s) by rw [show (3 : Int32) = nI 3 from rfl, pk_mul], wf_up, zb_bs, zb_up_n (show ¬ (0 = 0 ∧ 0 = 0 ∧ 27 = 29) by omega), zb_up_n (show ¬ (0 = 0 ∧ 0 = 21 ∧ 27 = s) by omega), zb_up_n (show ¬ (0 = 0 ∧ 0 = 20 ∧ 27 = s) by omega), hp, nI_1, wf_up, zb_bs]
  generalize hM6 : jm_up (jm_up (jm_up (jm_up M 0 20 s (sgn (X a))) 0 21 s (nI a)) 0 0 29 (nI (3 * s))) 0 0 27 (nI (a + 1)) = M6
  have w6 : wrT s w M M6 := by
    rw [← hM6]
    exact (((wrT.rf.up (by omega)).up (by omega)).up (by omega)).up (by omega)
  have q27 : M6 0 0 27 = nI (a + 1) := by rw [← hM6]; exact zb_up_s
  have q29 : M6 0 0 29 = nI (3 * s) := by rw [← hM6, zb_up_n (by omega), zb_up_s]
  have q20 : M6 0 20 s = nI (X a) := by
    rw [← hM6, zb_up_n (by omega), zb_up_n (by omega), zb_up_n (by omega), zb_up_s]
    unfold sgn
    rw [if_neg hx9]
  have q21 : M6 0 21 s = nI a := by rw [← hM6, zb_up_n (by omega), zb_up_n (by omega), zb_up_s]
  have q28 : M6 0 0 28 = nI s := by rw [w6 0 0 28 (by omega)]; exact h28
  have q30 : M6 0 0 30 = nI w := by rw [← hM6, zb_up_n (by omega), zb_up_n (by omega), zb_up_n (by omega), zb_up_n (by omega)]; exact h30
  -- the body writes neither 20 nor 21: seen by what it keeps
  have keep : ∀ r, rdA X M6 s w a r → stS X M s w a (r.bind (fun r7 => if r7.1 = 0 then some (0, r7.2) else (sM_sign r7.2).bind (fun r9 => if r9 = 59 then (jm_wf r7.2 0 27 ((r7.2 0 0 27) + 1)).bind (fun M11 => some (1, M11)) else some (0, r7.2)))) := by
    intro r hr
    obtain ⟨ok, j, M', w', rfl, r1, r2, r3, r4, r5⟩ := hr
    rw [zb_bs]
    cases ok with
    | false =>
      rw [if_neg (by decide)] at r3
      rw [if_pos (show (bI false, M').1 = 0 from rfl)]
      refine ⟨M', 0, by rw [r3]; rfl, w6.tr r1.t, by rw [r3]; exact r2, fun z => by rw [r3] at z; cases z⟩
    | true =>
      rw [if_pos rfl] at r3
      obtain ⟨b1, b2, b3, b4⟩ := r5 rfl
      have k1 := r1 0 20 s (by omega)
      have k2 := r1 0 21 s (by omega)
      have hx' := r1.tx (w6.tx h)
      have e59 : (sgn (X j) = (59 : Int32)) = (X j = 59) := sgn_eq (k := 59) h.1 (by omega)
      rw [if_neg (show ¬ (bI true, M').1 = 0 from one_n), M_sign hx' (i := j) (by omega) r2, zb_bs]
      unfold sem at r3
      by_cases c : X j = 59
      · rw [if_pos c] at r3
        rw [if_pos (e59.mpr c), show (bI true, M').2 = M' from rfl, r2, nI_1, wf_up, zb_bs]
        refine ⟨_, w', by rw [r3]; rfl, (w6.tr r1.t).up (by omega), by rw [r3]; exact zb_up_s, fun _ => ⟨by rw [zb_up_n (by omega)]; exact b1, b2, by rw [r3]; show w' ≤ j + 1; omega, ?_, ?_, ?_⟩⟩
        · rw [zb_up_n (by omega), k1]; exact q20
        · rw [zb_up_n (by omega), k2]; exact q21
        · have up : ∀ J k, ¬ J = 0 → jm_up M' 0 0 27 (nI (j + 1)) 0 J k = M' 0 J k := fun J k hJ => zb_up_n (by omega)
          obtain ⟨B1, B2, B3, B4, B5⟩ := b4
          refine ⟨fun z => ?_, fun z => ?_, fun z => ?_, fun z => ?_, fun z => ?_⟩
          · rw [up _ _ (by omega), up _ _ (by omega), up _ _ (by omega)]; exact B1 z
          · rw [up _ _ (by omega), up _ _ (by omega), up _ _ (by omega), up _ _ (by omega), up _ _ (by omega)]; exact B2 z
          · rw [up _ _ (by omega), up _ _ (by omega), up _ _ (by omega)]; exact B3 z
          · rw [up _ _ (by omega)]; exact B4 z
          · obtain ⟨v, v1, v2, v3, v4⟩ := B5 z
            refine ⟨v, by rw [up _ _ (by omega)]; exact v1, v2, by rw [up _ _ (by omega)]; exact v3, fun k hk => ?_⟩
            rw [up _ _ (by omega), up _ _ (by omega)]
            exact v4 k hk
      · rw [if_neg c] at r3
        rw [if_neg (fun z => c (e59.mp z))]
        exact ⟨M', 0, by rw [r3]; rfl, w6.tr r1.t, by rw [r3]; exact r2, fun z => by rw [r3] at z; cases z⟩
  exact keep _ (M_readsAll (w6.tx h) ha hd q27 q29 q28 hs q30 hw)
theorem M_statement (h : txM M X n) {a s w : Nat} (ha : a < 97) (hp : M 0 0 27 = nI a) (h28 : M 0 0 28 = nI s) (hs : s < 49) (h30 : M 0 0 30 = nI w) (hw : w ≤ a) : stS X M s w a (sM_statement M) := by
  have ee : ∀ k, k ≤ 255 → (sgn (X a) = nI k) = (X a = k) := fun k hk => sgn_eq h.1 hk
  have e98 : (sgn (X a) = (98 : Int32)) = (X a = 98) := ee 98 (by omega)
  have e104 : (sgn (X a) = (104 : Int32)) = (X a = 104) := ee 104 (by omega)
  have e108 : (sgn (X a) = (108 : Int32)) = (X a = 108) := ee 108 (by omega)
  have e112 : (sgn (X a) = (112 : Int32)) = (X a = 112) := ee 112 (by omega)
  have e114 : (sgn (X a) = (114 : Int32)) = (X a = 114) := ee 114 (by omega)
  have e119 : (sgn (X a) = (119 : Int32)) = (X a = 119) := ee 119 (by omega)
  unfold sM_statement
  rw [M_sign h (by omega) hp, zb_bs]
  by_cases c1 : X a = 112
  · rw [if_pos (e112.mpr c1)]
    exact M_stmK h ha (by omega) hp h28 hs h30 hw
  rw [if_neg (fun z => c1 (e112.mp z))]
  by_cases c2 : X a = 98
  · rw [if_pos (e98.mpr c2)]
    exact M_stmK h ha (by omega) hp h28 hs h30 hw
  rw [if_neg (fun z => c2 (e98.mp z))]
  by_cases c3 : X a = 114
  · rw [if_pos (e114.mpr c3)]
    exact M_stmK h ha (by omega) hp h28 hs h30 hw
  rw [if_neg (fun z => c3 (e114.mp z))]
  by_cases c4 : X a = 104
  · rw [if_pos (e104.mpr c4)]
    exact M_stmK h ha (by omega) hp h28 hs h30 hw
  rw [if_neg (fun z => c4 (e104.mp z))]
  by_cases c5 : X a = 108
  · rw [if_pos (e108.mpr c5)]
    exact M_stmK h ha (by omega) hp h28 hs h30 hw
  rw [if_neg (fun z => c5 (e108.mp z))]
  by_cases c6 : X a = 119
  · rw [if_pos (e119.mpr c6)]
    exact M_stmK h ha (by omega) hp h28 hs h30 hw
  rw [if_neg (fun z => c6 (e119.mp z))]
  have e : stm X a = (false, a) := by
    unfold stm
    rw [if_neg c1, if_neg c2, if_neg c5, if_neg c6, if_neg (by omega)]
  exact ⟨M, 0, by rw [e]; rfl, wrT.rf, by rw [e]; exact hp, fun z => by rw [e] at z; cases z⟩
end
