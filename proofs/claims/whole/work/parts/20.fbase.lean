/-! numbers -/
theorem zb_bs {α β : Type} (a : α) (f : α → Option β) : (some a).bind f = f a := by
  cases h : f a <;> simp [h]
theorem zb_rd {n k : Nat} {f : Nat → Int32} (h : k < n) (hn : n < 2000) : jm_rd n f (nI k) = some (f k) := by
  unfold jm_rd
  rw [if_neg (nI_in h (by omega)), nI_clamp (by omega)]
theorem zb_wa {n k : Nat} {M : jm_M} {t j : Nat} {v : Int32} (h : k < n) (hn : n < 2000) : jm_wa n M t j (nI k) v = some (jm_up M t j k v) := by
  unfold jm_wa
  rw [if_neg (nI_in h (by omega)), nI_clamp (by omega)]
theorem zb_le {a b : Nat} (ha : a < 1000000) (hb : b < 1000000) : (nI a ≤ nI b) = (a ≤ b) := propext (nI_leI (by omega) (by omega))
theorem zb_lt {a b : Nat} (ha : a < 1000000) (hb : b < 1000000) : (nI a < nI b) = (a < b) := propext (nI_ltI (by omega) (by omega))
theorem zb_eq {a b : Nat} (ha : a < 1000000) (hb : b < 1000000) : (nI a = nI b) = (a = b) := propext (nI_eq (by omega) (by omega))
theorem zb_rm {a d : Nat} (ha : a < 1000000) (h0 : 0 < d) (hd : d < 1000000) : jm_rm (nI a) (nI d) = some (nI (a % d)) := by
  unfold jm_rm
  rw [if_neg (by rw [← nI_0, zb_eq hd (by omega)]; omega), pk_rem (by omega) h0 (by omega)]
theorem zb_dv {a d : Nat} (ha : a < 1000000) (h0 : 0 < d) (hd : d < 1000000) : jm_dv (nI a) (nI d) = some (nI (a / d)) := by
  unfold jm_dv
  rw [if_neg (by rw [← nI_0, zb_eq hd (by omega)]; omega), pk_div (by omega) h0 (by omega)]
theorem zb_up_s {M : jm_M} {t j i : Nat} {v : Int32} : jm_up M t j i v t j i = v := by simp [jm_up]
theorem zb_up_n {M : jm_M} {t j i a b k : Nat} {v : Int32} (h : ¬ (a = t ∧ b = j ∧ k = i)) : jm_up M t j i v a b k = M a b k := by simp only [jm_up]; rw [if_neg h]
theorem zb_nd {n : Nat} (h : n < 1000000) : ¬ nI n < 0 := by rw [← nI_0, zb_lt h (by omega)]; omega
theorem zb_nd2 {n : Nat} (h : n < 1000000) : 0 ≤ nI n := by rw [← nI_0, zb_le (by omega) h]; omega
theorem zb_m9 {n : Nat} (h : n < 1000000) : ¬ nI n = (-9) := by
  intro e
  have h2 := zb_nd h
  rw [e] at h2
  exact h2 (by decide)
/-- a whole number of Java's, by its natural number -/
noncomputable def zb_N (x : Int32) : Nat := x.toNatClampNeg
noncomputable def zb_in (x : Int32) (m : Nat) : Prop := ∃ n, n ≤ m ∧ x = nI n
theorem zb_N_nI {n : Nat} (h : n < 1000000) : zb_N (nI n) = n := nI_clamp (by omega)
theorem zb_in_N {x : Int32} {m : Nat} (h : zb_in x m) (hm : m < 1000000) : x = nI (zb_N x) ∧ zb_N x ≤ m := by
  obtain ⟨n, hn, rfl⟩ := h
  rw [zb_N_nI (by omega)]
  exact ⟨rfl, hn⟩
/-- an argument against a count: below 0, too large, or a number of the row -/
theorem zb_arg (x : Int32) (n : Nat) (hn : n < 1000000) : x < 0 ∨ (¬ x < 0 ∧ nI n ≤ x) ∨ ∃ k, k < n ∧ x = nI k := by
  rcases pk_ix x (n := n) (by omega) with h | h | h
  · exact Or.inl h
  · by_cases h0 : x < 0
    · exact Or.inl h0
    · exact Or.inr (Or.inl ⟨h0, h⟩)
  · exact Or.inr (Or.inr h)
/-! loops -/
theorem zb_forA {σ ε : Type} (f : σ → Option (σ ⊕ ε)) (g : Nat → σ) (e : ε) (n : Nat) : ∀ (d a N : Nat), a + d = n → (∀ k, a ≤ k → k < n → f (g k) = some (.inl (g (k + 1)))) → f (g n) = some (.inr e) → d < N → jm_loop f N (g a) = some e := by
  intro d
  induction d with
  | zero =>
    intro a N ha hs he hN
    cases N with
    | zero => omega
    | succ N =>
      have : a = n := by omega
      subst this
      rw [jm_loop, he]
  | succ d ih =>
    intro a N ha hs he hN
    cases N with
    | zero => omega
    | succ N =>
      rw [jm_loop, hs a (Nat.le_refl _) (by omega)]
      exact ih (a + 1) N (by omega) (fun k h1 h2 => hs k (by omega) h2) he (by omega)
theorem zb_for {σ ε : Type} {f : σ → Option (σ ⊕ ε)} (g : Nat → σ) {s : σ} {e : ε} (n : Nat) (h0 : g 0 = s) (hs : ∀ k, k < n → f (g k) = some (.inl (g (k + 1)))) (he : f (g n) = some (.inr e)) (hn : n < 1000000) : jm_loop f jm_N s = some e := by
  subst h0
  exact zb_forA f g e n n 0 jm_N (by omega) (fun k _ h => hs k h) he (by rw [jm_N_eq]; exact hn)
theorem zb_from {σ ε : Type} {f : σ → Option (σ ⊕ ε)} (g : Nat → σ) {s : σ} {e : ε} (a n : Nat) (han : a ≤ n) (h0 : g a = s) (hs : ∀ k, a ≤ k → k < n → f (g k) = some (.inl (g (k + 1)))) (he : f (g n) = some (.inr e)) (hn : n < 1000000) : jm_loop f jm_N s = some e := by
  subst h0
  exact zb_forA f g e n (n - a) a jm_N (by omega) hs he (by rw [jm_N_eq]; omega)
theorem zb_forB {σ ε τ : Type} {f : σ → Option (σ ⊕ ε)} {s : σ} {k : ε → Option τ} {r : Option τ} (g : Nat → σ) (e : ε) (n : Nat) (h0 : g 0 = s) (hs : ∀ k, k < n → f (g k) = some (.inl (g (k + 1)))) (he : f (g n) = some (.inr e)) (hn : n < 1000000) (hk : k e = r) : (jm_loop f jm_N s).bind k = r := by
  rw [zb_for g n h0 hs he hn]
  exact hk
theorem zb_fromB {σ ε τ : Type} {f : σ → Option (σ ⊕ ε)} {s : σ} {k : ε → Option τ} {r : Option τ} (g : Nat → σ) (e : ε) (a n : Nat) (han : a ≤ n) (h0 : g a = s) (hs : ∀ k, a ≤ k → k < n → f (g k) = some (.inl (g (k + 1)))) (he : f (g n) = some (.inr e)) (hn : n < 1000000) (hk : k e = r) : (jm_loop f jm_N s).bind k = r := by
  rw [zb_from g a n han h0 hs he hn]
  exact hk
theorem zb_nle {a b : Nat} (h : b < a) (ha : a < 1000000) : ¬ nI a ≤ nI b := nI_ge h (by omega)
theorem zb_yle {a b : Nat} (h : a ≤ b) (hb : b < 1000000) : nI a ≤ nI b := nI_le h (by omega)
/-- a loop that ends: by a measure -/
theorem zb_ends {σ ε : Type} {f : σ → Option (σ ⊕ ε)} (I : σ → Prop) (μ : σ → Nat) (h : ∀ s, I s → (∃ e, f s = some (.inr e)) ∨ ∃ s', f s = some (.inl s') ∧ I s' ∧ μ s' < μ s) : ∀ (N : Nat) (s : σ), I s → μ s < N → ∃ e, jm_loop f N s = some e := by
  intro N
  induction N with
  | zero => intro s _ h; omega
  | succ N ih =>
    intro s hI hm
    rcases h s hI with ⟨e, he⟩ | ⟨s', hs, hI', hl⟩
    · exact ⟨e, by rw [jm_loop, he]⟩
    · obtain ⟨e, he⟩ := ih s' hI' (by omega)
      exact ⟨e, by rw [jm_loop, hs]; exact he⟩
/-- the first place below n where P holds -/
noncomputable def zb_ff (P : Nat → Prop) (n : Nat) (r : Option Nat) : Prop := match r with
  | some k => k < n ∧ P k ∧ ∀ j, j < k → ¬ P j
  | none => ∀ j, j < n → ¬ P j
theorem zb_ff_ex (P : Nat → Prop) (n : Nat) : ∃ r, zb_ff P n r := by
  induction n with
  | zero => exact ⟨none, fun j h => by omega⟩
  | succ n ih =>
    obtain ⟨r, hr⟩ := ih
    cases r with
    | some k => exact ⟨some k, by obtain ⟨h1, h2, h3⟩ := hr; exact ⟨by omega, h2, h3⟩⟩
    | none =>
      by_cases h : P n
      · exact ⟨some n, by omega, h, hr⟩
      · refine ⟨none, fun j hj => ?_⟩
        rcases Nat.lt_or_ge j n with h1 | h1
        · exact hr j h1
        · have : j = n := by omega
          subst this; exact h
theorem zb_ff_un {P : Nat → Prop} {n : Nat} {r r' : Option Nat} (h : zb_ff P n r) (h' : zb_ff P n r') : r = r' := by
  cases r with
  | none =>
    cases r' with
    | none => rfl
    | some k => exact absurd h'.2.1 (h k h'.1)
  | some k =>
    cases r' with
    | none => exact absurd h.2.1 (h' k h.1)
    | some k' =>
      have h1 : ¬ k < k' := fun q => h'.2.2 k q h.2.1
      have h2 : ¬ k' < k := fun q => h.2.2 k' q h'.2.1
      rw [show k = k' by omega]
noncomputable def zb_o (r : Option Nat) : Int32 := match r with
  | some k => nI k
  | none => -9
/-- folds -/
noncomputable def zf {α : Type} (F : Nat → α → α) : Nat → α → α
  | 0, x => x
  | k + 1, x => F k (zf F k x)
theorem zf_congr {α : Type} {F G : Nat → α → α} (n : Nat) (x : α) (h : ∀ k, k < n → ∀ y, F k y = G k y) : zf F n x = zf G n x := by
  induction n with
  | zero => rfl
  | succ n ih => rw [zf, zf, ih (fun k hk => h k (by omega)), h n (by omega)]
theorem zf_inv {α : Type} {F : Nat → α → α} (I : Nat → α → Prop) (n : Nat) (x : α) (h0 : I 0 x) (hs : ∀ k, k < n → ∀ y, I k y → I (k + 1) (F k y)) : I n (zf F n x) := by
  induction n with
  | zero => exact h0
  | succ n ih => exact hs n (by omega) _ (ih (fun k hk => hs k (by omega)))
noncomputable def zb_b (c : Prop) {inst : Decidable c} : Int32 := @ite _ c inst 1 0
/-! towns as the class has them: T 0 its fields, T (slot + 1) its rows -/
abbrev jm_T : Type := Nat → Nat → Int32
noncomputable def np (T : jm_T) : Nat := zb_N (T 0 0)
noncomputable def nb (T : jm_T) : Nat := zb_N (T 0 4)
noncomputable def ns (T : jm_T) : Nat := zb_N (T 0 12)
noncomputable def nw (T : jm_T) : Nat := zb_N (T 0 11)
noncomputable def ctT (T : jm_T) : Prop := zb_in (T 0 0) 6 ∧ zb_in (T 0 4) 10 ∧ zb_in (T 0 12) 6
theorem ctT.p {T : jm_T} (h : ctT T) : T 0 0 = nI (np T) ∧ np T ≤ 6 := zb_in_N h.1 (by omega)
theorem ctT.b {T : jm_T} (h : ctT T) : T 0 4 = nI (nb T) ∧ nb T ≤ 10 := zb_in_N h.2.1 (by omega)
theorem ctT.s {T : jm_T} (h : ctT T) : T 0 12 = nI (ns T) ∧ ns T ≤ 6 := zb_in_N h.2.2 (by omega)
noncomputable def ts_bc (x : Int32) : Int32 := (sJ_bitCount x).getD 0
theorem J_bitCount (x : Int32) : sJ_bitCount x = some (ts_bc x) := rfl
theorem ends_lengthOf (v : Int32) : ∃ e, sI_lengthOf v = some e := by
  unfold sI_lengthOf
  obtain ⟨e, he⟩ := zb_ends (f := sI_lengthOf_L4) (fun s => zb_in s.1 4) (fun s => zb_N s.1) (by
    intro s hI
    obtain ⟨n, hn, e⟩ := hI
    unfold sI_lengthOf_L4
    rw [e]
    cases n with
    | zero =>
      left
      exact ⟨_, by rw [nI_0, if_pos (by decide)]⟩
    | succ n =>
      rw [if_neg (by rw [← nI_0, zb_le (by omega) (by omega)]; omega)]
      unfold jm_rm jm_dv
      rw [if_neg (by decide), if_neg (by decide)]
      simp only [Option.bind_some]
      by_cases h : s.2 - s.2 / 27 * 27 = 0
      · right
        refine ⟨(nI n, s.2 / 27), by rw [if_pos h, pk_m1], ⟨n, by omega, rfl⟩, ?_⟩
        show zb_N (nI n) < zb_N (nI (n + 1))
        rw [zb_N_nI (by omega), zb_N_nI (by omega)]
        omega
      · left
        exact ⟨_, by rw [if_neg h]⟩) jm_N (4, v) ⟨4, by omega, rfl⟩ (by rw [jm_N_eq]; show zb_N (nI 4) < 1000000; rw [zb_N_nI (by omega)]; omega)
  exact ⟨e, by rw [he]; rfl⟩
noncomputable def ts_len (v : Int32) : Int32 := (sI_lengthOf v).getD 0
theorem I_lengthOf (v : Int32) : sI_lengthOf v = some (ts_len v) := by
  obtain ⟨e, he⟩ := ends_lengthOf v
  rw [ts_len, he]
  rfl
