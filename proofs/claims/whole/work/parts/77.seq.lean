/-! statement by statement -/
noncomputable def aS (X : jm_X) : Nat → Nat
  | 0 => 0
  | k + 1 => (stm X (aS X k)).2
def fin_ (X : jm_X) (k : Nat) : Prop := (stm X (aS X k)).1 = true
theorem aS_S (X : jm_X) (k : Nat) : aS X (k + 1) = (stm X (aS X k)).2 := rfl
theorem nK_ex (X : jm_X) (n : Nat) : ∃ r, zb_ff (fun k => ¬ fin_ X k ∨ n ≤ aS X (k + 1)) 97 r := zb_ff_ex _ _
noncomputable def nK (X : jm_X) (n : Nat) : Nat := (nK_ex X n).choose.getD 0
theorem aS_2 {X : jm_X} {n : Nat} (hX : txX X n) : ∀ k, (∀ j, j < k → fin_ X j) → 2 * k ≤ aS X k ∧ (aS X k ≤ n ∨ k = 0) := by
  intro k
  induction k with
  | zero => intro _; exact ⟨Nat.zero_le _, Or.inr rfl⟩
  | succ k ih =>
    intro h
    have i := ih (fun j hj => h j (by omega))
    have l := stm_lt hX (h k (by omega))
    rw [aS_S]
    exact ⟨by omega, Or.inl l.2.1⟩
theorem nK_at {X : jm_X} {n : Nat} (hX : txX X n) : (∀ k, k < nK X n → fin_ X k ∧ aS X (k + 1) < n) ∧ (¬ fin_ X (nK X n) ∨ n ≤ aS X (nK X n + 1)) ∧ nK X n ≤ 47 ∧ aS X (nK X n) ≤ 96 := by
  have h := (nK_ex X n).choose_spec
  have hn := hX.1
  unfold nK
  generalize (nK_ex X n).choose = r at h
  cases r with
  | none =>
    exfalso
    have g : ∀ k, k < 97 → fin_ X k ∧ aS X (k + 1) < n := fun k hk => ⟨Classical.byContradiction (fun z => h k hk (Or.inl z)), by
      rcases Nat.lt_or_ge (aS X (k + 1)) n with z | z
      · exact z
      · exact absurd (Or.inr z) (h k hk)⟩
    have a := (aS_2 hX 97 (fun j hj => (g j (by omega)).1)).1
    have b : aS X 97 < n := (g 96 (by omega)).2
    omega
  | some k =>
    obtain ⟨h1, h2, h3⟩ := h
    have g : ∀ j, j < k → fin_ X j ∧ aS X (j + 1) < n := fun j hj => ⟨Classical.byContradiction (fun z => h3 j hj (Or.inl z)), by
      rcases Nat.lt_or_ge (aS X (j + 1)) n with z | z
      · exact z
      · exact absurd (Or.inr z) (h3 j hj)⟩
    have a := aS_2 hX k (fun j hj => (g j hj).1)
    have b : aS X k ≤ 95 ∨ k = 0 := by
      rcases Nat.eq_zero_or_pos k with z | z
      · exact Or.inr z
      · have := (g (k - 1) (by omega)).2
        rw [show k - 1 + 1 = k by omega] at this
        omega
    refine ⟨g, h2, ?_, ?_⟩
    · show k ≤ 47
      omega
    · show aS X k ≤ 96
      rcases b with b | b
      · omega
      · subst b; show 0 ≤ 96; omega
/-- all of it can be read -/
def allR (X : jm_X) (n : Nat) : Prop := fin_ X (nK X n)
theorem allR_n {X : jm_X} {n : Nat} (hX : txX X n) (h : allR X n) : aS X (nK X n + 1) = n ∧ ∀ k, k ≤ nK X n → fin_ X k := by
  obtain ⟨a, b, -⟩ := nK_at hX
  have g : ∀ k, k ≤ nK X n → fin_ X k := fun k hk => by
    rcases Nat.lt_or_ge k (nK X n) with z | z
    · exact (a k z).1
    · rw [show k = nK X n by omega]; exact h
  refine ⟨?_, g⟩
  have l := (stm_lt hX h).2.1
  have := b.resolve_left (fun z => z h)
  rw [aS_S] at this ⊢
  omega
theorem bI_z (b : Bool) : jm_bz (bI b) = some (bI b) := by cases b <;> rfl
section
variable {C : jm_M} {X : jm_X} {n : Nat}
theorem S_canBeRead (h : txC C X n) : sS_canBeRead C = some (bI (stm X (aS X (nK X n))).1, atP C (aS X (nK X n + 1))) := by
  obtain ⟨a, b, k47, a96⟩ := nK_at h.1
  have hn := h.1.1
  unfold sS_canBeRead
  rw [wf_up, zb_bs, show jm_up C 14 0 2 0 = atP C 0 from rfl, S_passStatement h (by omega), zb_bs]
  have stp : ∀ k, k < nK X n → sS_canBeRead_L12 (bI (stm X (aS X k)).1, nI k, atP C (aS X (k + 1))) = some (.inl (bI (stm X (aS X (k + 1))).1, nI (k + 1), atP C (aS X (k + 1 + 1)))) := by
    intro k hk
    obtain ⟨a1, a2⟩ := a k hk
    have a1' : (stm X (aS X k)).1 = true := a1
    unfold sS_canBeRead_L12
    simp only []
    rw [if_neg (show ¬ (96 : Int32) ≤ nI k from zb_nle (a := 96) (by omega) (by omega)), a1', if_neg (show ¬ bI true = 0 by decide), atP_p, atP_1, h.2.1, if_neg (zb_nle a2 (by omega)), S_passStatement h (by omega), zb_bs, nI_1]
    rfl
  refine zb_forB (fun k => (bI (stm X (aS X k)).1, nI k, atP C (aS X (k + 1)))) (bI (stm X (aS X (nK X n))).1, atP C (aS X (nK X n + 1))) (nK X n) rfl stp ?_ (by omega) ?_
  · unfold sS_canBeRead_L12
    simp only []
    rw [if_neg (show ¬ (96 : Int32) ≤ nI (nK X n) from zb_nle (a := 96) (by omega) (by omega))]
    by_cases c : (stm X (aS X (nK X n))).1 = true
    · have b := b.resolve_left (fun z => z c)
      rw [c, if_neg (show ¬ bI true = 0 by decide), atP_p, atP_1, h.2.1, if_pos (zb_yle b (by
        rw [aS_S]
        have := (stm_lt h.1 c).2.1
        omega))]
    · rw [Bool.not_eq_true] at c
      rw [c, if_pos (show bI false = 0 by decide)]
  · show (jm_bz (bI (stm X (aS X (nK X n))).1)).bind _ = _
    rw [bI_z, zb_bs]
end
