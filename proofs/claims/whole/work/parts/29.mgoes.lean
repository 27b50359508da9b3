/-! the reference's weeks, and how it keeps a town and takes it back -/
section
variable {T : jm_T} {M : jm_M} {w : Nat}
theorem TR_wkT (hr : TR T (M 0)) : TR (wkT T) (jm_up M 0 0 15 (M 0 0 15 + 1) 0) := by
  have e : ∀ j, ¬ j = 0 → jm_up M 0 0 15 (M 0 0 15 + 1) 0 j = M 0 j := fun j hj => by funext k; exact zb_up_n (by omega)
  unfold wkT
  refine ⟨?_, ?_, ?_, ?_⟩
  · rw [zb_up_n (by omega), zb_up_n (by omega), zb_up_s, zb_up_n (by omega), pt_k (by omega), pt_k (by omega), pt_s, pt_k (by omega), hr.1.2.2.1]
    exact ⟨hr.1.1, hr.1.2.1, rfl, hr.1.2.2.2⟩
  · rw [np_e (T := T) (pt_k (by omega)), e 2 (by omega), e 3 (by omega), e 4 (by omega), pt_j (by omega), pt_j (by omega), pt_j (by omega)]; exact hr.2.1
  · rw [nb_e (T := T) (pt_k (by omega)), e 5 (by omega), e 6 (by omega), e 7 (by omega), e 8 (by omega), e 9 (by omega), pt_j (show ¬ 6 = 0 by omega), pt_j (show ¬ 7 = 0 by omega), pt_j (show ¬ 8 = 0 by omega), pt_j (show ¬ 9 = 0 by omega), pt_j (show ¬ 10 = 0 by omega)]
    intro b hb
    obtain ⟨a1, a2, a3, a4, a5, a6⟩ := hr.2.2.1 b hb
    refine ⟨a1, a2, a3, a4, a5, ?_⟩
    unfold ti dg at a6 ⊢
    rw [e 10 (by omega), e 11 (by omega), pt_j (by omega)]
    exact a6
  · rw [ns_e (T := T) (pt_k (by omega)), e 12 (by omega), e 13 (by omega), pt_j (by omega), pt_j (by omega)]; exact hr.2.2.2
theorem M_goesWeek (hw : wfT w T) (hw2 : w + 1 < 1000000) (hr : TR T (M 0)) (r : Bool) (hd : (M 0 0 17 = 0) = (r = true)) : ∃ M', sM_goesWeek M = some M' ∧ TR (wkS r T) (M' 0) ∧ mF [2, 8, 9] [15] M M' := by
  unfold sM_goesWeek jm_wf
  rw [zb_bs]
  have hw1 := wf_wkT hw
  have hp := hw.1.p
  have hr1 := TR_wkT hr
  have hm1 : mF [2, 8, 9] [15] M (jm_up M 0 0 15 (M 0 0 15 + 1)) := mF.up (Or.inr ⟨rfl, by decide⟩)
  -- the towns on the way, by choice
  have step : ∀ k, k ≤ np T → ∃ M', (∃ g : Nat → jm_M, g 0 = jm_up M 0 0 15 (M 0 0 15 + 1) ∧ g k = M' ∧ ∀ i, i < k → sM_goesWeek_L12 (nI i, g i) = some (.inl (nI (i + 1), g (i + 1)))) ∧ TR (zf (goP r) k (wkT T)) (M' 0) ∧ mF [2, 8, 9] [15] M M' := by
    intro k
    induction k with
    | zero => intro _; exact ⟨_, ⟨fun _ => jm_up M 0 0 15 (M 0 0 15 + 1), rfl, rfl, fun i hi => by omega⟩, hr1, hm1⟩
    | succ k ih =>
      intro hk
      obtain ⟨Mk, ⟨g, g0, gk, gs⟩, hrk, hmk⟩ := ih (by omega)
      have hwk := wf_goPs r hw1 k (by rw [np_wkT]; omega)
      have ek : np (zf (goP r) k (wkT T)) = np T := (np_e (by rw [goPs_j _ _ _ 0 (by omega)])).trans (np_wkT T)
      have hdk : Mk 0 0 17 = M 0 0 17 := hmk 0 0 17 (by decide)
      obtain ⟨M', e', hr', hm'⟩ := M_goesPerson hwk (by omega) hrk (p := k) (by rw [ek]; omega) r (by rw [hdk]; exact hd)
      refine ⟨M', ⟨fun i => if i ≤ k then g i else M', by simp [g0], by simp only [show ¬ k + 1 ≤ k by omega, if_false], fun i hi => ?_⟩, hr', hmk.tr (hm'.mono (fun x h => h) (fun x h => by cases h))⟩
      by_cases h : i < k
      · simp only [show i ≤ k by omega, show i + 1 ≤ k by omega, if_true]
        exact gs i h
      · have : i = k := by omega
        subst this
        simp only [Nat.le_refl, if_true, show ¬ i + 1 ≤ i by omega, if_false, gk]
        unfold sM_goesWeek_L12
        simp only []
        rw [hrk.1.1, goPs_j _ _ _ 0 (by omega), show wkT T 0 0 = T 0 0 from pt_k (by omega), hp.1, if_neg (zb_nle (by omega) (by omega)), e', zb_bs, nI_1]
  obtain ⟨M', ⟨g, g0, gk, gs⟩, hr', hm'⟩ := step (np T) (Nat.le_refl _)
  refine ⟨M', ?_, hr', hm'⟩
  refine zb_forB (fun k => (nI k, g k)) M' (np T) (by rw [g0]; rfl) gs ?_ (by omega) rfl
  unfold sM_goesWeek_L12
  simp only [gk]
  rw [hr'.1.1, goPs_j _ _ _ 0 (by omega), show wkT T 0 0 = T 0 0 from pt_k (by omega), hp.1, if_pos (zb_yle (Nat.le_refl _) (by omega))]
end
/-- a loop over memories that are only known to be: by choice, one behind the other -/
theorem zb_chain {α ε τ : Type} {f : (Int32 × α) → Option ((Int32 × α) ⊕ ε)} (I : Nat → α → Prop) (n : Nat) (hn : n < 1000000) {x : α} (h0 : I 0 x) (hs : ∀ k, k < n → ∀ y, I k y → ∃ y', f (nI k, y) = some (.inl (nI (k + 1), y')) ∧ I (k + 1) y') : ∃ y, I n y ∧ ∀ (k : ε → Option τ) (e : ε) (r : Option τ), f (nI n, y) = some (.inr e) → k e = r → (jm_loop f jm_N (0, x)).bind k = r := by
  have step : ∀ k, k ≤ n → ∃ y, (∃ g : Nat → α, g 0 = x ∧ g k = y ∧ ∀ i, i < k → f (nI i, g i) = some (.inl (nI (i + 1), g (i + 1)))) ∧ I k y := by
    intro k
    induction k with
    | zero => intro _; exact ⟨x, ⟨fun _ => x, rfl, rfl, fun i hi => by omega⟩, h0⟩
    | succ k ih =>
      intro hk
      obtain ⟨y, ⟨g, g0, gk, gs⟩, hI⟩ := ih (by omega)
      obtain ⟨y', e', hI'⟩ := hs k (by omega) y hI
      refine ⟨y', ⟨fun i => if i ≤ k then g i else y', by simp [g0], by simp only [show ¬ k + 1 ≤ k by omega, if_false], fun i hi => ?_⟩, hI'⟩
      by_cases h : i < k
      · simp only [show i ≤ k by omega, show i + 1 ≤ k by omega, if_true]
        exact gs i h
      · have : i = k := by omega
        subst this
        simp only [Nat.le_refl, if_true, show ¬ i + 1 ≤ i by omega, if_false, gk]
        exact e'
  obtain ⟨y, ⟨g, g0, gk, gs⟩, hI⟩ := step n (Nat.le_refl _)
  refine ⟨y, hI, fun k e r he hk => ?_⟩
  exact zb_forB (fun k => (nI k, g k)) e n (by rw [g0]; rfl) gs (by rw [gk]; exact he) hn hk
section
variable {T : jm_T} {M : jm_M} {w : Nat}
theorem M_goes (hw : wfT w T) {n : Nat} (hw2 : w + n < 1000000) (hr : TR T (M 0)) (hd : M 0 0 17 = 0) : ∃ M', sM_goes M (nI n) = some M' ∧ TR (wkN n T) (M' 0) ∧ mF [2, 8, 9] [15] M M' := by
  unfold sM_goes
  obtain ⟨y, ⟨hy1, hy2⟩, hy⟩ := zb_chain (τ := jm_M) (f := sM_goes_L2 (nI n)) (fun k y => TR (wkN k T) (y 0) ∧ mF [2, 8, 9] [15] M y) n (by omega) (x := M) ⟨hr, mF.rf⟩ (fun k hk y hy => by
    obtain ⟨h1, h2⟩ := hy
    obtain ⟨y', e1, e2, e3⟩ := M_goesWeek (wf_wkN k hw) (by omega) h1 true (by rw [show y 0 0 17 = M 0 0 17 from h2 0 0 17 (by decide), hd]; simp)
    refine ⟨y', ?_, e2, h2.tr e3⟩
    unfold sM_goes_L2
    simp only []
    rw [if_neg (zb_nle hk (by omega)), e1, zb_bs, nI_1])
  refine ⟨y, ?_, hy1, hy2⟩
  refine hy _ y _ ?_ rfl
  unfold sM_goes_L2
  rw [if_pos (zb_yle (Nat.le_refl _) (by omega))]
end
/-! what is kept -/
/-- the rows in the order in which they are kept -/
noncomputable def ofs (j : Nat) : Nat := if j = 2 then 0 else if j = 3 then 6 else if j = 4 then 12 else if j = 5 then 18 else if j = 6 then 28 else if j = 7 then 38 else if j = 8 then 48 else if j = 9 then 58 else if j = 10 then 68 else if j = 11 then 78 else if j = 12 then 118 else 124
noncomputable def lns (j : Nat) : Nat := if j ≤ 4 then 6 else if j ≤ 10 then 10 else if j = 11 then 40 else 6
/-- the town that is kept at a place -/
noncomputable def dec (h : Nat → Int32) (c : Nat) : jm_T := fun j i => if j = 0 then h (c + 130 + (i - 13)) else h (c + ofs j + i)
noncomputable def core (j i : Nat) : Prop := (j = 0 ∧ 13 ≤ i ∧ i ≤ 16) ∨ (2 ≤ j ∧ j ≤ 13 ∧ i < lns j)
theorem TR_core {T g g' : jm_T} (h : TR T g) (hc : ctT T) (he : ∀ j i, core j i → g' j i = g j i) : TR T g' := by
  have h6 := hc.p.2
  have h10 := hc.b.2
  have h6s := hc.s.2
  have e0 : ∀ i, 13 ≤ i → i ≤ 16 → g' 0 i = g 0 i := fun i h1 h2 => he 0 i (Or.inl ⟨rfl, h1, h2⟩)
  have ej : ∀ j i, 2 ≤ j → j ≤ 13 → i < lns j → g' j i = g j i := fun j i h1 h2 h3 => he j i (Or.inr ⟨h1, h2, h3⟩)
  refine ⟨?_, ?_, ?_, ?_⟩
  · rw [e0 13 (by omega) (by omega), e0 14 (by omega) (by omega), e0 15 (by omega) (by omega), e0 16 (by omega) (by omega)]; exact h.1
  · intro p hp
    rw [ej 2 p (by omega) (by omega) (by show p < 6; omega), ej 3 p (by omega) (by omega) (by show p < 6; omega), ej 4 p (by omega) (by omega) (by show p < 6; omega)]
    exact h.2.1 p hp
  · intro b hb
    have hb10 : b < 10 := by omega
    rw [ej 5 b (by omega) (by omega) hb10, ej 6 b (by omega) (by omega) hb10, ej 7 b (by omega) (by omega) hb10, ej 8 b (by omega) (by omega) hb10, ej 9 b (by omega) (by omega) hb10]
    obtain ⟨a1, a2, a3, a4, a5, a6⟩ := h.2.2.1 b hb
    refine ⟨a1, a2, a3, a4, a5, ?_⟩
    have e10 : g' 10 b = g 10 b := ej 10 b (by omega) (by omega) hb10
    have e11 : ∀ k, k < 4 → g' 11 (4 * b + k) = g 11 (4 * b + k) := fun k hk => ej 11 _ (by omega) (by omega) (by show _ < 40; omega)
    have h4 := (zb_in_N a6.1 (by omega)).2
    have ed : ∀ k, k < 4 → dg g' b k = dg g b k := fun k hk => by unfold dg; rw [e10, e11 k hk]
    unfold ti
    rw [e10, ed 0 (by omega), ed 1 (by omega), ed 2 (by omega), ed 3 (by omega)]
    exact ⟨a6.1, a6.2.1, fun k hk => by rw [e11 k (by omega)]; exact a6.2.2.1 k hk, a6.2.2.2⟩
  · intro i hi
    rw [ej 12 i (by omega) (by omega) (by show i < 6; omega), ej 13 i (by omega) (by omega) (by show i < 6; omega)]
    exact h.2.2.2 i hi
theorem len_LM : ∀ j, 2 ≤ j → j ≤ 13 → jm_len jm_LM (0, j) = some (lns j) := by
  intro j h1 h2
  rcases (show j = 2 ∨ j = 3 ∨ j = 4 ∨ j = 5 ∨ j = 6 ∨ j = 7 ∨ j = 8 ∨ j = 9 ∨ j = 10 ∨ j = 11 ∨ j = 12 ∨ j = 13 by omega) with rfl | rfl | rfl | rfl | rfl | rfl | rfl | rfl | rfl | rfl | rfl | rfl <;> rfl
