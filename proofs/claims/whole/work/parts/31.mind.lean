/-! in mind: the reference keeps, goes on and takes back; the class has a town of its own -/
def MD (M M1 : jm_M) : Prop := (∀ j i, core j i → dec (M1 0 32) 270 j i = M 0 j i) ∧ (∀ i, ¬ (270 ≤ i ∧ i < 404) → M1 0 32 i = M 0 32 i) ∧ mF [32] [33, 34] M M1
def sameM (M M3 : jm_M) : Prop := (∀ j i, core j i → M3 0 j i = M 0 j i) ∧ (∀ i, ¬ (270 ≤ i ∧ i < 404) → M3 0 32 i = M 0 32 i) ∧ mF [2, 3, 4, 5, 6, 7, 8, 9, 10, 11, 12, 13, 32, 38, 39, 40, 43] [13, 14, 15, 16, 17, 33, 34, 43] M M3 ∧ M3 0 0 17 = 0
theorem M_minds (M : jm_M) : ∃ M1, sM_minds M = some M1 ∧ MD M M1 := by
  obtain ⟨M1, e, h1, h2, h3⟩ := M_keepAll (M := M) (n := 2) (by omega)
  refine ⟨M1, ?_, h1, h2, h3⟩
  unfold sM_minds
  rw [show (2 : Int32) = nI 2 from rfl, e, zb_bs]
theorem M_forgets {M M1 M2 : jm_M} (h : MD M M1) (h2 : mF [2, 3, 4, 5, 6, 7, 8, 9, 10, 11, 12, 13, 38, 39, 40, 43] [13, 14, 15, 16, 17, 43] M1 M2) : ∃ M3, sM_forgets M2 = some M3 ∧ sameM M M3 := by
  obtain ⟨M3, e, h3, h4⟩ := M_backAll (M := M2) (n := 2) (by omega)
  refine ⟨jm_up M3 0 0 17 0, ?_, ?_, ?_, ?_, zb_up_s⟩
  · unfold sM_forgets jm_wz
    rw [show (2 : Int32) = nI 2 from rfl, e, zb_bs, if_pos (Or.inl rfl), zb_bs]
  · intro j i hc
    have hn : ¬ (0 = 0 ∧ j = 0 ∧ i = 17) := by
      rcases hc with ⟨h1, h2, h3⟩ | ⟨h1, h2, h3⟩ <;> omega
    rw [zb_up_n hn, h3 j i hc, show dec (M2 0 32) (135 * 2) j i = dec (M1 0 32) 270 j i from by
      have e : M2 0 32 = M1 0 32 := by funext k; exact h2 0 32 k (by simp)
      rw [e], h.1 j i hc]
  · intro i hi
    rw [zb_up_n (by omega), h4 0 32 i (by simp), h2 0 32 i (by simp), h.2.1 i hi]
  · intro a j k q
    rw [zb_up_n (fun e => q ⟨e.1, Or.inr ⟨e.2.1, by rw [e.2.2]; decide⟩⟩)]
    rw [h4 a j k (fun e => q ⟨e.1, e.2.elim (fun e => Or.inl (by simp at e ⊢; omega)) (fun e => Or.inr ⟨e.1, by have := e.2; simp at this ⊢; omega⟩)⟩)]
    rw [h2 a j k (fun e => q ⟨e.1, e.2.elim (fun e => Or.inl (by simp at e ⊢; omega)) (fun e => Or.inr ⟨e.1, by have := e.2; simp at this ⊢; omega⟩)⟩)]
    exact h.2.2 a j k (fun e => q ⟨e.1, e.2.elim (fun e => Or.inl (by simp at e ⊢; omega)) (fun e => Or.inr ⟨e.1, by have := e.2; simp at this ⊢; omega⟩)⟩)
theorem sameM.rf {M : jm_M} (h : M 0 0 17 = 0) : sameM M M := ⟨fun _ _ _ => rfl, fun _ _ => rfl, mF.rf, h⟩
theorem sameM.tr {M M3 M5 : jm_M} (h : sameM M M3) (h' : sameM M3 M5) : sameM M M5 := ⟨fun j i hc => (h'.1 j i hc).trans (h.1 j i hc), fun i hi => (h'.2.1 i hi).trans (h.2.1 i hi), h.2.2.1.tr h'.2.2.1, h'.2.2.2⟩
theorem core_n {j i : Nat} (h : core j i) : ¬ (j ∈ [32] ∨ (j = 0 ∧ i ∈ [33, 34])) := by
  intro e
  simp at e
  rcases h with ⟨h1, h2, h3⟩ | ⟨h1, h2, h3⟩ <;> omega
theorem TR_MD {T : jm_T} {M M1 : jm_M} (hr : TR T (M 0)) (hc : ctT T) (h : MD M M1) : TR T (M1 0) := TR_core hr hc (fun j i hj => h.2.2 0 j i (fun e => core_n hj e.2))
theorem TR_same {T : jm_T} {M M1 : jm_M} (hr : TR T (M 0)) (hc : ctT T) (h : sameM M M1) : TR T (M1 0) := TR_core hr hc h.1
theorem MD.d {M M1 : jm_M} (h : MD M M1) : M1 0 0 17 = M 0 0 17 := h.2.2 0 0 17 (by decide)
theorem mF.goes {M M' : jm_M} (h : mF [2, 8, 9] [15] M M') : mF [2, 3, 4, 5, 6, 7, 8, 9, 10, 11, 12, 13, 38, 39, 40, 43] [13, 14, 15, 16, 17, 43] M M' := h.mono (fun x h => by simp at h ⊢; omega) (fun x h => by simp at h ⊢; omega)
section
variable {T : jm_T} {M C : jm_M} {w : Nat}
theorem F_think {t : Nat} (ht : ¬ t = 4) (hz : ZT (C 4)) (hz' : ZT (C t)) : sF_think C t = some (stT C 4 (C t)) := by
  unfold sF_think
  rw [T_copyFrom ht hz hz', zb_bs]
theorem F_after {t n : Nat} (ht : ¬ t = 4) (hz : ZT (C 4)) (hz' : ZT (C t)) (hc : ctT (C t)) (hn : n < 1000000) : sF_after C t (nI n) = some (stT C 4 (wkN n (C t))) := by
  unfold sF_after
  rw [F_think ht hz hz', zb_bs, T_weeksPass (by rw [stT_s]; exact hc) hn, zb_bs, stT_s, stT_2]
/-- when it comes down for two, within m weeks -/
def downIn (T : jm_T) (p q m : Nat) (r : Option Nat) : Prop := zb_ff (fun n => ¬ ts_over (wkN n T) p q < 0) m r
theorem downIn_lt {T : jm_T} {p q m k : Nat} (h : downIn T p q m (some k)) : k < m := h.1
theorem F_weeksTillDown {p q m : Nat} (hc : ctT (C 4)) (hp : p < 6) (hq : q < 6) (hm : m < 100000) {x : Int32} (hx : x = nI m - 1) {r : Option Nat} (hr : downIn (C 4) p q m r) : ∃ n, n ≤ m ∧ sF_weeksTillDown C (nI p) (nI q) x = some (zb_o r, stT C 4 (wkN n (C 4))) := by
  subst hx
  have stp : ∀ k, sF_weeksTillDown_L3 (nI m - 1) (nI p) (nI q) (nI k, stT C 4 (wkN k (C 4))) = if nI m - 1 < nI k then some (.inr (.inl (stT C 4 (wkN k (C 4))))) else if ts_over (wkN k (C 4)) p q < 0 then some (.inl (nI (k + 1), stT C 4 (wkN (k + 1) (C 4)))) else some (.inr (.inr (nI k, stT C 4 (wkN k (C 4))))) := by
    intro k
    have hck := wkN_ct k hc
    unfold sF_weeksTillDown_L3
    simp only []
    rw [T_comesDown (by rw [stT_s]; exact hck) hp hq, zb_bs, stT_s]
    by_cases h : ts_over (wkN k (C 4)) p q < 0
    · simp only [h, if_true]
      rw [T_weekPasses (by rw [stT_s]; exact hck) true (by simp), zb_bs, stT_s, stT_2, nI_1]
      rfl
    · simp [h]
  unfold sF_weeksTillDown
  cases r with
  | none =>
    refine ⟨m, Nat.le_refl _, ?_⟩
    refine zb_forB (fun k => (nI k, stT C 4 (wkN k (C 4)))) (.inl (stT C 4 (wkN m (C 4)))) m (by show (nI 0, stT C 4 (C 4)) = _; rw [stT_self]; rfl) ?_ ?_ (by omega) rfl
    · intro k hk
      have hd : ts_over (wkN k (C 4)) p q < 0 := Decidable.byContradiction (hr k hk)
      rw [stp, if_neg (by rw [zb_pred (by omega), zb_le (by omega) (by omega)]; omega), if_pos hd]
    · rw [stp, if_pos (by rw [zb_pred (by omega)]; exact zb_yle (Nat.le_refl _) (by omega))]
  | some j =>
    obtain ⟨h1, h2, h3⟩ := hr
    refine ⟨j, by omega, ?_⟩
    refine zb_forB (fun k => (nI k, stT C 4 (wkN k (C 4)))) (.inr (nI j, stT C 4 (wkN j (C 4)))) j (by show (nI 0, stT C 4 (C 4)) = _; rw [stT_self]; rfl) ?_ ?_ (by omega) rfl
    · intro k hk
      have hd : ts_over (wkN k (C 4)) p q < 0 := Decidable.byContradiction (h3 k hk)
      rw [stp, if_neg (by rw [zb_pred (by omega), zb_le (by omega) (by omega)]; omega), if_pos hd]
    · rw [stp, if_neg (by rw [zb_pred (by omega), zb_le (by omega) (by omega)]; omega), if_neg h2]
theorem M_whenFrom (hw : wfT w T) (hw2 : w < 900000) (hr : TR T (M 0)) (hd : M 0 0 17 = 0) {p q : Nat} (hp : p < np T) (hq : q < np T) {r : Option Nat} (hr2 : downIn T p q 61 r) : ∃ M', sM_whenFrom M (nI p) (nI q) = some (zb_o r, M') ∧ mF [2, 8, 9] [15] M M' := by
  have stp : ∀ k y, k ≤ 61 → TR (wkN k T) (y 0) → (ts_over (wkN k T) p q < 0 → k < 61 → ∃ y', sM_goesWeek y = some y' ∧ sM_whenFrom_L2 (nI p) (nI q) (nI k, y) = some (.inl (nI (k + 1), y'))) ∧ (¬ ts_over (wkN k T) p q < 0 → k < 61 → sM_whenFrom_L2 (nI p) (nI q) (nI k, y) = some (.inr (.inr (nI k, y)))) ∧ (k = 61 → sM_whenFrom_L2 (nI p) (nI q) (nI k, y) = some (.inr (.inl y))) := by
    intro k y hk hy
    have e60 : ∀ j, ((60 : Int32) < nI j) = (nI 61 ≤ nI j) := fun j => zb_pred (n := 61) (by omega)
    have hpk : p < np (wkN k T) := by rw [np_wkN]; exact hp
    have hqk : q < np (wkN k T) := by rw [np_wkN]; exact hq
    have hwk := wf_wkN k hw
    refine ⟨fun h1 h2 => ?_, fun h1 h2 => ?_, fun h1 => ?_⟩
    · have hg : ∃ y', sM_goesWeek y = some y' := by
        by_cases hdy : y 0 0 17 = 0
        · obtain ⟨y', e, -⟩ := M_goesWeek hwk (by omega) hy true (by rw [hdy]; simp)
          exact ⟨y', e⟩
        · obtain ⟨y', e, -⟩ := M_goesWeek hwk (by omega) hy false (by simp [hdy])
          exact ⟨y', e⟩
      obtain ⟨y', e⟩ := hg
      refine ⟨y', e, ?_⟩
      unfold sM_whenFrom_L2
      simp only []
      rw [if_neg (by rw [e60, zb_le (by omega) (by omega)]; omega), M_comesDown hwk (by omega) hy hpk hqk, zb_bs, if_pos h1, if_pos rfl, e, zb_bs, nI_1]
    · unfold sM_whenFrom_L2
      simp only []
      rw [if_neg (by rw [e60, zb_le (by omega) (by omega)]; omega), M_comesDown hwk (by omega) hy hpk hqk, zb_bs, if_neg h1, if_neg (by decide)]
    · unfold sM_whenFrom_L2
      simp only []
      rw [if_pos (by rw [e60, zb_le (by omega) (by omega)]; omega)]
  have run : ∀ n, n ≤ 61 → (∀ k, k < n → ts_over (wkN k T) p q < 0) → ∃ y, (TR (wkN n T) (y 0) ∧ mF [2, 8, 9] [15] M y) ∧ ∀ (k : (jm_M ⊕ (Int32 × jm_M)) → Option (Int32 × jm_M)) e r, sM_whenFrom_L2 (nI p) (nI q) (nI n, y) = some (.inr e) → k e = r → (jm_loop (sM_whenFrom_L2 (nI p) (nI q)) jm_N (0, M)).bind k = r := by
    intro n hn hlo
    refine zb_chain (τ := Int32 × jm_M) (f := sM_whenFrom_L2 (nI p) (nI q)) (fun k y => TR (wkN k T) (y 0) ∧ mF [2, 8, 9] [15] M y) n (by omega) ⟨hr, mF.rf⟩ (fun k hk y hy => ?_)
    obtain ⟨y', e1, e2⟩ := (stp k y (by omega) hy.1).1 (hlo k hk) (by omega)
    obtain ⟨y2, f1, f2, f3⟩ := M_goesWeek (wf_wkN k hw) (by omega) hy.1 true (by rw [show y 0 0 17 = M 0 0 17 from hy.2 0 0 17 (by decide), hd]; simp)
    rw [e1] at f1
    cases f1
    exact ⟨y', e2, f2, hy.2.tr f3⟩
  unfold sM_whenFrom
  cases r with
  | none =>
    obtain ⟨y, ⟨hy1, hy2⟩, hy⟩ := run 61 (Nat.le_refl _) (fun k hk => Decidable.byContradiction (hr2 k hk))
    exact ⟨y, hy _ (.inl y) _ ((stp 61 y (by omega) hy1).2.2 rfl) rfl, hy2⟩
  | some j =>
    obtain ⟨h1, h2, h3⟩ := hr2
    obtain ⟨y, ⟨hy1, hy2⟩, hy⟩ := run j (by omega) (fun k hk => Decidable.byContradiction (h3 k hk))
    exact ⟨y, hy _ (.inr (nI j, y)) _ ((stp j y (by omega) hy1).2.1 h2 h1) rfl, hy2⟩
end
