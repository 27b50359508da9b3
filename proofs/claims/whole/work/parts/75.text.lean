/-! a text: its letters, the place where a statement ends -/
abbrev jm_X : Type := Nat → Nat
abbrev isL (c : Nat) : Prop := 97 ≤ c ∧ c ≤ 122
abbrev isD (c : Nat) : Prop := 48 ≤ c ∧ c ≤ 57
def sgn (c : Nat) : Int32 := if c = 999 then -1 else nI c
def bI (b : Bool) : Int32 := if b = true then 1 else 0
def dC (X : jm_X) : Nat → Nat → Nat
  | _, 0 => 0
  | i, k + 1 => if isD (X i) then dC X (i + 1) k + 1 else 0
noncomputable def nm (X : jm_X) (i k : Nat) : Nat := zf (fun j v => 10 * v + (X (i + j) - 48)) k 0
def stK (c : Nat) : Nat := if c = 97 then 0 else if c = 108 then 1 else if c = 99 then 2 else if c = 116 then 3 else if c = 100 then 4 else if c = 117 then 5 else if c = 104 then 6 else if c = 111 then 7 else 8
def qS (X : jm_X) (i : Nat) : Nat → Nat
  | 0 => i
  | k + 1 => qS X i k + (if stK (X (qS X i k)) < 4 then 3 else 1)
/-- what there is of the text -/
def txX (X : jm_X) (n : Nat) : Prop := n ≤ 96 ∧ (∀ i, i < n → X i ≤ 255) ∧ ∀ i, n ≤ i → X i = 999
theorem dC_le (X : jm_X) : ∀ k i, dC X i k ≤ k := by
  intro k
  induction k with
  | zero => intro i; exact Nat.le_refl _
  | succ k ih =>
    intro i
    show (if isD (X i) then dC X (i + 1) k + 1 else 0) ≤ k + 1
    have := ih (i + 1)
    split <;> omega
theorem dC_S (X : jm_X) (i k : Nat) : dC X i (k + 1) = if isD (X i) then dC X (i + 1) k + 1 else 0 := rfl
theorem dC_dig (X : jm_X) : ∀ k i j, j < dC X i k → isD (X (i + j)) := by
  intro k
  induction k with
  | zero => intro i j h; exact absurd h (Nat.not_lt_zero _)
  | succ k ih =>
    intro i j h
    rw [dC_S] at h
    by_cases c : isD (X i)
    · rw [if_pos c] at h
      cases j with
      | zero => exact c
      | succ j =>
        have := ih (i + 1) j (by omega)
        rw [show i + (j + 1) = i + 1 + j by omega]
        exact this
    · rw [if_neg c] at h; omega
theorem dC_stop (X : jm_X) : ∀ k i, dC X i k < k → ¬ isD (X (i + dC X i k)) := by
  intro k
  induction k with
  | zero => intro i h; exact absurd h (Nat.not_lt_zero _)
  | succ k ih =>
    intro i h
    rw [dC_S] at h ⊢
    by_cases c : isD (X i)
    · rw [if_pos c] at h ⊢
      have := ih (i + 1) (by omega)
      rw [show i + (dC X (i + 1) k + 1) = i + 1 + dC X (i + 1) k by omega]
      exact this
    · rw [if_neg c]; exact c
theorem dC_add (X : jm_X) (b : Nat) : ∀ a i, dC X i (a + b) = if dC X i a = a then a + dC X (i + a) b else dC X i a := by
  intro a
  induction a with
  | zero => intro i; rw [show dC X i 0 = 0 from rfl, if_pos rfl, Nat.zero_add, Nat.zero_add, Nat.add_zero]
  | succ a ih =>
    intro i
    rw [show a + 1 + b = (a + b) + 1 by omega, dC_S, dC_S]
    by_cases c : isD (X i)
    · rw [if_pos c, if_pos c, ih (i + 1)]
      by_cases d : dC X (i + 1) a = a
      · rw [if_pos d, if_pos (by omega), show i + 1 + a = i + (a + 1) by omega]; omega
      · rw [if_neg d, if_neg (by omega)]
    · rw [if_neg c, if_neg c, if_neg (by omega)]
theorem tW_ex (X : jm_X) (i : Nat) : ∃ r, zb_ff (fun k => ¬ isL (X (i + k))) 97 r := zb_ff_ex _ _
noncomputable def tW (X : jm_X) (i : Nat) : Nat := (tW_ex X i).choose.getD 0
theorem tW_at {X : jm_X} {n : Nat} (hX : txX X n) (i : Nat) : (∀ k, k < tW X i → isL (X (i + k))) ∧ ¬ isL (X (i + tW X i)) ∧ tW X i ≤ 96 := by
  have h := (tW_ex X i).choose_spec
  unfold tW
  generalize (tW_ex X i).choose = r at h
  cases r with
  | none =>
    exfalso
    have this : ¬ ¬ isL (X (i + 96)) := h 96 (by omega)
    rw [hX.2.2 (i + 96) (by have := hX.1; omega)] at this
    exact this (by decide)
  | some k =>
    obtain ⟨h1, h2, h3⟩ := h
    exact ⟨fun j hj => Decidable.byContradiction (h3 j hj), h2, by show k ≤ 96; omega⟩
def gS (X : jm_X) (i k : Nat) : Prop := stK (X (qS X i k)) < 8 ∧ (stK (X (qS X i k)) < 4 → dC X (qS X i k + 1) 2 = 2)
theorem nS_ex (X : jm_X) (i : Nat) : ∃ r, zb_ff (fun k => ¬ gS X i k) 97 r := zb_ff_ex _ _
noncomputable def nS (X : jm_X) (i : Nat) : Nat := (nS_ex X i).choose.getD 0
theorem qS_le (X : jm_X) (i : Nat) : ∀ k, i + k ≤ qS X i k := by
  intro k
  induction k with
  | zero => exact Nat.le_refl _
  | succ k ih =>
    show _ ≤ qS X i k + _
    split <;> omega
theorem qS_S (X : jm_X) (i k : Nat) : qS X i (k + 1) = qS X i k + (if stK (X (qS X i k)) < 4 then 3 else 1) := rfl
theorem stK_999 : stK 999 = 8 := by decide
theorem X_lt {X : jm_X} {n i : Nat} (hX : txX X n) (h : ¬ X i = 999) : i < n := by
  rcases Nat.lt_or_ge i n with z | z
  · exact z
  · exact absurd (hX.2.2 i z) h
theorem gS_lt {X : jm_X} {n i k : Nat} (hX : txX X n) (h : gS X i k) : qS X i k < n := X_lt hX (fun e => by
  have := h.1
  rw [e, stK_999] at this
  omega)
theorem nS_at {X : jm_X} {n : Nat} (hX : txX X n) (i : Nat) : (∀ k, k < nS X i → gS X i k) ∧ ¬ gS X i (nS X i) ∧ i + nS X i ≤ 96 + i ∧ (0 < nS X i → i + nS X i ≤ n) := by
  have h := (nS_ex X i).choose_spec
  unfold nS
  generalize (nS_ex X i).choose = r at h
  cases r with
  | none =>
    exfalso
    refine h 96 (by omega) (fun g => ?_)
    have := gS_lt hX g
    have := qS_le X i 96
    have := hX.1
    omega
  | some k =>
    obtain ⟨h1, h2, h3⟩ := h
    refine ⟨fun j hj => Classical.byContradiction (h3 j hj), h2, by show i + k ≤ 96 + i; omega, fun h0 => ?_⟩
    have h0 : 0 < k := h0
    have g : gS X i (k - 1) := Classical.byContradiction (h3 (k - 1) (by omega))
    have a := gS_lt hX g
    have b := qS_le X i (k - 1)
    show i + k ≤ n
    omega
/-! a statement: whether it is one, and where it ends, or where it can't go on -/
def sem (X : jm_X) (j : Nat) : Bool × Nat := if X j = 59 then (true, j + 1) else (false, j)
noncomputable def tit (X : jm_X) (j : Nat) : Bool × Nat := if tW X j = 0 then (false, j) else sem X (j + tW X j)
noncomputable def qE (X : jm_X) (j : Nat) : Nat := qS X j (nS X j)
noncomputable def stp (X : jm_X) (j : Nat) : Bool × Nat := if stK (X (qE X j)) = 8 then sem X (qE X j) else (false, qE X j + 1 + dC X (qE X j + 1) 2)
noncomputable def dgt (X : jm_X) (i k : Nat) (r : Bool × Nat) : Bool × Nat := if dC X i k = k then r else (false, i + dC X i k)
noncomputable def stm (X : jm_X) (i : Nat) : Bool × Nat :=
  if X i = 112 then dgt X (i + 1) 5 (sem X (i + 6))
  else if X i = 98 then dgt X (i + 1) 3 (tit X (i + 4))
  else if X i = 108 then stp X (i + 1)
  else if X i = 119 then dgt X (i + 1) 2 (sem X (i + 3))
  else if X i = 114 ∨ X i = 104 then dgt X (i + 1) 1 (tit X (i + 2))
  else (false, i)
theorem sem_lt {X : jm_X} {n j : Nat} (hX : txX X n) (h : (sem X j).1 = true) : X j = 59 ∧ (sem X j).2 = j + 1 ∧ j < n := by
  unfold sem at h ⊢
  by_cases c : X j = 59
  · rw [if_pos c]
    exact ⟨c, rfl, X_lt hX (by omega)⟩
  · rw [if_neg c] at h; cases h
theorem tit_lt {X : jm_X} {n j : Nat} (hX : txX X n) (h : (tit X j).1 = true) : 0 < tW X j ∧ X (j + tW X j) = 59 ∧ (tit X j).2 = j + tW X j + 1 ∧ j + tW X j < n := by
  unfold tit at h ⊢
  by_cases c : tW X j = 0
  · rw [if_pos c] at h; cases h
  · rw [if_neg c] at h ⊢
    obtain ⟨a, b, d⟩ := sem_lt hX h
    exact ⟨by omega, a, b, d⟩
theorem stp_lt {X : jm_X} {n j : Nat} (hX : txX X n) (h : (stp X j).1 = true) : X (qE X j) = 59 ∧ (stp X j).2 = qE X j + 1 ∧ qE X j < n := by
  unfold stp at h ⊢
  by_cases c : stK (X (qE X j)) = 8
  · rw [if_pos c] at h ⊢
    exact sem_lt hX h
  · rw [if_neg c] at h; cases h
theorem dgt_y {X : jm_X} {i k : Nat} {r : Bool × Nat} (h : (dgt X i k r).1 = true) : dC X i k = k ∧ r.1 = true ∧ dgt X i k r = r := by
  unfold dgt at h ⊢
  by_cases c : dC X i k = k
  · rw [if_pos c] at h ⊢
    exact ⟨c, h, rfl⟩
  · rw [if_neg c] at h; cases h
/-- a statement that is one ends behind its start, within the text -/
theorem stm_lt {X : jm_X} {n i : Nat} (hX : txX X n) (h : (stm X i).1 = true) : i + 2 ≤ (stm X i).2 ∧ (stm X i).2 ≤ n ∧ X ((stm X i).2 - 1) = 59 := by
  unfold stm at h ⊢
  by_cases c1 : X i = 112
  · rw [if_pos c1] at h ⊢
    obtain ⟨a1, a2, a3⟩ := dgt_y h
    obtain ⟨b1, b2, b3⟩ := sem_lt hX a2
    rw [a3, b2]
    exact ⟨by omega, by omega, by rw [Nat.add_sub_cancel]; exact b1⟩
  · rw [if_neg c1] at h ⊢
    by_cases c2 : X i = 98
    · rw [if_pos c2] at h ⊢
      obtain ⟨a1, a2, a3⟩ := dgt_y h
      obtain ⟨b0, b1, b2, b3⟩ := tit_lt hX a2
      rw [a3, b2]
      exact ⟨by omega, by omega, by rw [Nat.add_sub_cancel]; exact b1⟩
    · rw [if_neg c2] at h ⊢
      by_cases c3 : X i = 108
      · rw [if_pos c3] at h ⊢
        obtain ⟨b1, b2, b3⟩ := stp_lt hX h
        have := qS_le X (i + 1) (nS X (i + 1))
        rw [b2]
        unfold qE at *
        exact ⟨by omega, by omega, by rw [Nat.add_sub_cancel]; exact b1⟩
      · rw [if_neg c3] at h ⊢
        by_cases c4 : X i = 119
        · rw [if_pos c4] at h ⊢
          obtain ⟨a1, a2, a3⟩ := dgt_y h
          obtain ⟨b1, b2, b3⟩ := sem_lt hX a2
          rw [a3, b2]
          exact ⟨by omega, by omega, by rw [Nat.add_sub_cancel]; exact b1⟩
        · rw [if_neg c4] at h ⊢
          by_cases c5 : X i = 114 ∨ X i = 104
          · rw [if_pos c5] at h ⊢
            obtain ⟨a1, a2, a3⟩ := dgt_y h
            obtain ⟨b0, b1, b2, b3⟩ := tit_lt hX a2
            rw [a3, b2]
            exact ⟨by omega, by omega, by rw [Nat.add_sub_cancel]; exact b1⟩
          · rw [if_neg c5] at h; cases h
/-! the tests of a letter -/
theorem sgn_eq {X : jm_X} {n i k : Nat} (hX : txX X n) (hk : k ≤ 255) : (sgn (X i) = nI k) = (X i = k) := by
  unfold sgn
  by_cases c : X i = 999
  · rw [if_pos c]
    refine propext ⟨fun e => ?_, fun e => by omega⟩
    exact absurd (show (0 : Int32) ≤ -1 by rw [e]; exact zb_nd2 (by omega)) (by decide)
  · have := hX.2.1 i (X_lt hX c)
    rw [if_neg c, zb_eq (by omega) (by omega)]
theorem sgn_lt {X : jm_X} {n i k : Nat} (hX : txX X n) (hk : k ≤ 255) : (sgn (X i) < nI k) = (X i < k ∨ X i = 999) := by
  unfold sgn
  by_cases c : X i = 999
  · rw [if_pos c]
    refine propext ⟨fun e => Or.inr c, fun e => ?_⟩
    rw [Int32.lt_iff_toInt_lt, nI_toInt (by omega)]
    have : (-1 : Int32).toInt = -1 := rfl
    omega
  · have := hX.2.1 i (X_lt hX c)
    rw [if_neg c, zb_lt (by omega) (by omega)]
    exact propext ⟨Or.inl, fun e => e.resolve_right c⟩
theorem sgn_le {X : jm_X} {n i k : Nat} (hX : txX X n) (hk : k ≤ 255) : (sgn (X i) ≤ nI k) = (X i ≤ k ∨ X i = 999) := by
  unfold sgn
  by_cases c : X i = 999
  · rw [if_pos c]
    refine propext ⟨fun e => Or.inr c, fun e => ?_⟩
    rw [Int32.le_iff_toInt_le, nI_toInt (by omega)]
    have : (-1 : Int32).toInt = -1 := rfl
    omega
  · have := hX.2.1 i (X_lt hX c)
    rw [if_neg c, zb_le (by omega) (by omega)]
    exact propext ⟨Or.inl, fun e => e.resolve_right c⟩
theorem sgn_gt {X : jm_X} {n i k : Nat} (hX : txX X n) (hk : k ≤ 255) : (nI k < sgn (X i)) = (k < X i ∧ ¬ X i = 999) := by
  have h := sgn_le (i := i) hX hk
  rw [← Int32.not_le, h]
  exact propext ⟨fun z => ⟨by omega, fun e => z (Or.inr e)⟩, fun z e => e.elim (fun e => by omega) z.2⟩
theorem sl_at : ∀ c, c < 256 → ∀ j, j < 8 → ((jm_SL j = nI c) ↔ j = stK c) := by decide +kernel
theorem sl_m1 : ∀ j, j < 8 → ¬ jm_SL j = -1 := by decide +kernel
theorem so_at : ∀ c, c < 256 → sM_stepOf (nI c) = some (if stK c = 8 then -9 else nI (stK c)) := by decide +kernel
theorem so_m1 : sM_stepOf (-1) = some (-9) := by decide +kernel
theorem stK_le (c : Nat) : stK c ≤ 8 := by
  unfold stK
  repeat' split
  all_goals omega
theorem M_stepOf {X : jm_X} {n i : Nat} (hX : txX X n) : sM_stepOf (sgn (X i)) = some (if stK (X i) = 8 then -9 else nI (stK (X i))) := by
  unfold sgn
  by_cases c : X i = 999
  · rw [if_pos c, c, so_m1, if_pos stK_999]
  · have := hX.2.1 i (X_lt hX c)
    rw [if_neg c]
    exact so_at (X i) (by omega)
