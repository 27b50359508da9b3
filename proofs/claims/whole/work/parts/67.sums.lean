/-! sums over a set of books; sets as bits; the first of the least key -/
noncomputable def sm (P : Nat → Prop) [DecidablePred P] (f : Nat → Nat) (n : Nat) : Nat := zf (fun b v => if P b then v + f b else v) n 0
theorem sm_S (P : Nat → Prop) [DecidablePred P] (f : Nat → Nat) (n : Nat) : sm P f (n + 1) = if P n then sm P f n + f n else sm P f n := rfl
theorem sm_le (P : Nat → Prop) [DecidablePred P] (f : Nat → Nat) (c : Nat) : ∀ n, (∀ k, k < n → f k ≤ c) → sm P f n ≤ c * n := by
  intro n
  induction n with
  | zero => intro _; exact Nat.zero_le _
  | succ n ih =>
    intro h
    have i := ih (fun k hk => h k (by omega))
    have := h n (by omega)
    rw [sm_S, Nat.mul_succ]
    split <;> omega
theorem sm_mono {P Q : Nat → Prop} [DecidablePred P] [DecidablePred Q] (f : Nat → Nat) : ∀ n, (∀ k, k < n → P k → Q k) → sm P f n ≤ sm Q f n := by
  intro n
  induction n with
  | zero => intro _; exact Nat.le_refl _
  | succ n ih =>
    intro h
    have i := ih (fun k hk => h k (by omega))
    rw [sm_S, sm_S]
    by_cases p : P n
    · rw [if_pos p, if_pos (h n (by omega) p)]; omega
    · rw [if_neg p]; split <;> omega
theorem sm_congr {P Q : Nat → Prop} [DecidablePred P] [DecidablePred Q] (f : Nat → Nat) (n : Nat) (h : ∀ k, k < n → (P k ↔ Q k)) : sm P f n = sm Q f n :=
  Nat.le_antisymm (sm_mono f n (fun k hk => (h k hk).1)) (sm_mono f n (fun k hk => (h k hk).2))
theorem sm_or {P Q : Nat → Prop} [DecidablePred P] [DecidablePred Q] (f : Nat → Nat) : ∀ n, (∀ k, k < n → P k → ¬ Q k) → sm (fun b => P b ∨ Q b) f n = sm P f n + sm Q f n := by
  intro n
  induction n with
  | zero => intro _; rfl
  | succ n ih =>
    intro h
    have i := ih (fun k hk => h k (by omega))
    rw [sm_S, sm_S, sm_S]
    by_cases p : P n
    · rw [if_pos (Or.inl p), if_pos p, if_neg (h n (by omega) p)]; omega
    · by_cases q : Q n
      · rw [if_pos (Or.inr q), if_neg p, if_pos q]; omega
      · rw [if_neg (fun z => z.elim p q), if_neg p, if_neg q]; omega
theorem zb_hb : ∀ b, b < 10 → ∀ s, s < 1024 → (hbit (nI s) b ↔ s.testBit b = true) := by decide +kernel
theorem zb_shl : ∀ n, n ≤ 10 → (1 : Int32) <<< (nI n &&& 31) = nI (2 ^ n) := by decide +kernel
theorem zb_two : ∀ n, n ≤ 10 → 2 ^ n ≤ 1024 := by decide
theorem bc_sm : ∀ s, s < 1024 → zb_N (ts_bc (nI s)) = sm (fun b => s.testBit b = true) (fun _ => 1) 10 := by decide +kernel
theorem bc_mono {s t : Nat} (hs : s < 1024) (ht : t < 1024) (h : ∀ b, s.testBit b = true → t.testBit b = true) : zb_N (ts_bc (nI s)) ≤ zb_N (ts_bc (nI t)) := by
  rw [bc_sm s hs, bc_sm t ht]
  exact sm_mono _ 10 (fun k _ q => h k q)
theorem sub_z {s o : Nat} (hs : s < 1024) (ho : o < 1024) : (nI s &&& (nI o ^^^ (-1)) = 0) = (∀ b, s.testBit b = true → o.testBit b = true) := by
  have e : (nI s &&& (nI o ^^^ (-1))).toBitVec = BitVec.ofNat 32 s &&& (BitVec.ofNat 32 o ^^^ BitVec.allOnes 32) := rfl
  rw [← Int32.toBitVec_inj, e]
  apply propext
  constructor
  · intro h b hb
    have h32 : b < 32 := by
      rcases Nat.lt_or_ge b 32 with q | q
      · exact q
      · have : s < 2 ^ b := Nat.lt_of_lt_of_le (show s < 2 ^ 32 by omega) (Nat.pow_le_pow_right (by omega) q)
        rw [Nat.testBit_lt_two_pow this] at hb
        cases hb
    have h2 := congrArg (fun (x : BitVec 32) => x.getLsbD b) h
    simp only [BitVec.getLsbD_and, BitVec.getLsbD_xor, BitVec.getLsbD_ofNat, BitVec.getLsbD_allOnes, h32, decide_true, Bool.true_and, hb, Bool.xor_true] at h2
    have h3 : (0 : Int32).toBitVec.getLsbD b = false := by
      show (0#32).getLsbD b = false
      exact BitVec.getLsbD_zero
    rw [h3] at h2
    simpa using h2
  · intro h
    refine BitVec.eq_of_getLsbD_eq (fun i hi => ?_)
    have h3 : (0 : Int32).toBitVec.getLsbD i = false := by
      show (0#32).getLsbD i = false
      exact BitVec.getLsbD_zero
    rw [h3]
    simp only [BitVec.getLsbD_and, BitVec.getLsbD_xor, BitVec.getLsbD_ofNat, BitVec.getLsbD_allOnes, hi, decide_true, Bool.true_and, Bool.xor_true]
    by_cases q : s.testBit i = true
    · rw [q, h i q]; rfl
    · rw [Bool.not_eq_true] at q
      rw [q]; rfl
theorem tb_lt {s n b : Nat} (hs : s < 2 ^ n) (h : s.testBit b = true) : b < n := by
  rcases Nat.lt_or_ge b n with q | q
  · exact q
  · rw [Nat.testBit_lt_two_pow (Nat.lt_of_lt_of_le hs (Nat.pow_le_pow_right (by omega) q))] at h
    cases h
theorem bits_of (P : Nat → Prop) : ∀ n, n ≤ 10 → ∃ m, m < 2 ^ n ∧ ∀ b, b < n → (m.testBit b = true ↔ P b) := by
  intro n
  induction n with
  | zero => intro _; exact ⟨0, by decide, fun b hb => by omega⟩
  | succ n ih =>
    intro hn
    obtain ⟨m, h1, h2⟩ := ih (by omega)
    have e : (2 : Nat) ^ (n + 1) = 2 ^ n + 2 ^ n := by rw [Nat.pow_succ]; omega
    by_cases q : P n
    · refine ⟨m + 2 ^ n, by omega, fun b hb => ?_⟩
      rcases Nat.lt_or_ge b n with z | z
      · rw [zb_tb2 n (by omega) m h1 b z]; exact h2 b z
      · rw [show b = n by omega, zb_tb3 n (by omega) m h1]
        exact ⟨fun _ => q, fun _ => rfl⟩
    · refine ⟨m, by omega, fun b hb => ?_⟩
      rcases Nat.lt_or_ge b n with z | z
      · exact h2 b z
      · rw [show b = n by omega, Nat.testBit_lt_two_pow h1]
        exact ⟨fun y => (by cases y), fun y => absurd y q⟩
/-- the first of the least key below n -/
def argm (P : Nat → Prop) (K : Nat → Nat) (n : Nat) (r : Option Nat) : Prop := match r with
  | none => ∀ k, k < n → ¬ P k
  | some b => b < n ∧ P b ∧ (∀ k, k < n → P k → K b ≤ K k) ∧ ∀ k, k < b → P k → K b < K k
theorem argm_un {P : Nat → Prop} {K : Nat → Nat} {n : Nat} {r r' : Option Nat} (h : argm P K n r) (h' : argm P K n r') : r = r' := by
  cases r with
  | none =>
    cases r' with
    | none => rfl
    | some b => exact absurd h'.2.1 (h b h'.1)
  | some b =>
    cases r' with
    | none => exact absurd h.2.1 (h' b h.1)
    | some c =>
      obtain ⟨a1, a2, a3, a4⟩ := h
      obtain ⟨b1, b2, b3, b4⟩ := h'
      have x1 := a3 c b1 b2
      have x2 := b3 b a1 a2
      rcases Nat.lt_trichotomy b c with q | q | q
      · have := b4 b q a2; omega
      · rw [q]
      · have := a4 c q b2; omega
theorem argm_skip {P : Nat → Prop} {K : Nat → Nat} {n : Nat} {r : Option Nat} (h : argm P K n r) (hP : ¬ P n) : argm P K (n + 1) r := by
  have sp : ∀ k, k < n + 1 → P k → k < n := fun k hk q => by
    have : ¬ k = n := fun e => hP (by rw [← e]; exact q)
    omega
  cases r with
  | none => exact fun k hk q => h k (sp k hk q) q
  | some b => exact ⟨by have := h.1; omega, h.2.1, fun k hk q => h.2.2.1 k (sp k hk q) q, h.2.2.2⟩
theorem argm_new {P : Nat → Prop} {K : Nat → Nat} {n : Nat} {r : Option Nat} (h : argm P K n r) (hP : P n) (hl : ∀ b, r = some b → K n < K b) : argm P K (n + 1) (some n) := by
  cases r with
  | none =>
    refine ⟨by omega, hP, fun k hk q => ?_, fun k hk q => absurd q (h k hk)⟩
    rcases Nat.lt_or_ge k n with z | z
    · exact absurd q (h k z)
    · rw [show k = n by omega]; exact Nat.le_refl _
  | some b =>
    obtain ⟨a1, a2, a3, a4⟩ := h
    have hb := hl b rfl
    refine ⟨by omega, hP, fun k hk q => ?_, fun k hk q => ?_⟩
    · rcases Nat.lt_or_ge k n with z | z
      · have := a3 k z q; omega
      · rw [show k = n by omega]; exact Nat.le_refl _
    · have := a3 k hk q; omega
theorem argm_old {P : Nat → Prop} {K : Nat → Nat} {n b : Nat} (h : argm P K n (some b)) (hl : K b ≤ K n) : argm P K (n + 1) (some b) := by
  obtain ⟨a1, a2, a3, a4⟩ := h
  refine ⟨by omega, a2, fun k hk q => ?_, a4⟩
  rcases Nat.lt_or_ge k n with z | z
  · exact a3 k z q
  · rw [show k = n by omega]; exact hl
/-- fewer that are tried, if each other one has one ahead that is as good -/
theorem argm_more {P Q : Nat → Prop} {K : Nat → Nat} {n : Nat} {r : Option Nat} (h : argm P K n r) (h1 : ∀ k, k < n → P k → Q k) (h2 : ∀ k, k < n → Q k → ∃ j, j ≤ k ∧ P j ∧ K j ≤ K k) : argm Q K n r := by
  cases r with
  | none =>
    intro k hk q
    obtain ⟨j, j1, j2, -⟩ := h2 k hk q
    exact h j (by omega) j2
  | some b =>
    obtain ⟨a1, a2, a3, a4⟩ := h
    refine ⟨a1, h1 b a1 a2, fun k hk q => ?_, fun k hk q => ?_⟩
    · obtain ⟨j, j1, j2, j3⟩ := h2 k hk q
      have := a3 j (by omega) j2
      omega
    · obtain ⟨j, j1, j2, j3⟩ := h2 k (by omega) q
      have := a4 j (by omega) j2
      omega
theorem argm_ex (P : Nat → Prop) (K : Nat → Nat) : ∀ n, ∃ r, argm P K n r := by
  intro n
  induction n with
  | zero => exact ⟨none, fun k hk => by omega⟩
  | succ n ih =>
    obtain ⟨r, hr⟩ := ih
    by_cases hP : P n
    · cases r with
      | none => exact ⟨some n, argm_new hr hP (fun b e => by cases e)⟩
      | some b =>
        by_cases q : K n < K b
        · exact ⟨some n, argm_new hr hP (fun c e => by cases e; exact q)⟩
        · exact ⟨some b, argm_old hr (by omega)⟩
    · exact ⟨r, argm_skip hr hP⟩
