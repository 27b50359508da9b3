/-! the reference reads a text and keeps what it says -/
def txM (M : jm_M) (X : jm_X) (n : Nat) : Prop := txX X n ∧ M 0 0 26 = nI n ∧ ∀ i, i < n → M 0 19 i = nI (X i)
noncomputable def sN (X : jm_X) (q : Nat) : Nat := if stK (X q) < 4 then nm X (q + 1) 2 else 0
/-- what a statement may write -/
def wrS (s w : Nat) (M M' : jm_M) : Prop := ∀ a j k, ¬ (a = 0 ∧ ((j = 0 ∧ (k = 27 ∨ k = 29 ∨ k = 30)) ∨ ((j = 23 ∨ j = 24) ∧ k = s) ∨ (j = 22 ∧ 3 * s ≤ k ∧ k ≤ 3 * s + 2) ∨ ((j = 25 ∨ j = 26) ∧ w ≤ k))) → M' a j k = M a j k
theorem wrS.rf {s w : Nat} {M : jm_M} : wrS s w M M := fun _ _ _ _ => rfl
theorem wrS.tr {s w : Nat} {M M1 M2 : jm_M} (h : wrS s w M M1) (h' : wrS s w M1 M2) : wrS s w M M2 := fun a j k q => (h' a j k q).trans (h a j k q)
theorem wrS.mono {s w w' : Nat} {M M1 : jm_M} (h : wrS s w' M M1) (hw : w ≤ w') : wrS s w M M1 := fun a j k q => h a j k (fun e => q (by omega))
theorem wrS.up {s w : Nat} {M M1 : jm_M} (h : wrS s w M M1) {j k : Nat} {v : Int32} (hj : (j = 0 ∧ (k = 27 ∨ k = 29 ∨ k = 30)) ∨ ((j = 23 ∨ j = 24) ∧ k = s) ∨ (j = 22 ∧ 3 * s ≤ k ∧ k ≤ 3 * s + 2) ∨ ((j = 25 ∨ j = 26) ∧ w ≤ k)) : wrS s w M (jm_up M1 0 j k v) := by
  intro a b c q
  rw [zb_up_n (by omega)]
  exact h a b c q
theorem wrS.tx {s w n : Nat} {X : jm_X} {M M' : jm_M} (h : wrS s w M M') (ht : txM M X n) : txM M' X n :=
  ⟨ht.1, by rw [h 0 0 26 (by omega)]; exact ht.2.1, fun i hi => by rw [h 0 19 i (by omega)]; exact ht.2.2 i hi⟩
/-- .. and its head -/
def wrT (s w : Nat) (M M' : jm_M) : Prop := ∀ a j k, ¬ (a = 0 ∧ ((j = 0 ∧ (k = 27 ∨ k = 29 ∨ k = 30)) ∨ ((j = 20 ∨ j = 21 ∨ j = 23 ∨ j = 24) ∧ k = s) ∨ (j = 22 ∧ 3 * s ≤ k ∧ k ≤ 3 * s + 2) ∨ ((j = 25 ∨ j = 26) ∧ w ≤ k))) → M' a j k = M a j k
theorem wrS.t {s w : Nat} {M M' : jm_M} (h : wrS s w M M') : wrT s w M M' := fun a j k q => h a j k (fun e => q (by omega))
theorem wrT.rf {s w : Nat} {M : jm_M} : wrT s w M M := fun _ _ _ _ => rfl
theorem wrT.tr {s w : Nat} {M M1 M2 : jm_M} (h : wrT s w M M1) (h' : wrT s w M1 M2) : wrT s w M M2 := fun a j k q => (h' a j k q).trans (h a j k q)
theorem wrT.up {s w : Nat} {M M1 : jm_M} (h : wrT s w M M1) {j k : Nat} {v : Int32} (hj : (j = 0 ∧ (k = 27 ∨ k = 29 ∨ k = 30)) ∨ ((j = 20 ∨ j = 21 ∨ j = 23 ∨ j = 24) ∧ k = s) ∨ (j = 22 ∧ 3 * s ≤ k ∧ k ≤ 3 * s + 2) ∨ ((j = 25 ∨ j = 26) ∧ w ≤ k)) : wrT s w M (jm_up M1 0 j k v) := by
  intro a b c q
  rw [zb_up_n (by omega)]
  exact h a b c q
theorem wrT.tx {s w n : Nat} {X : jm_X} {M M' : jm_M} (h : wrT s w M M') (ht : txM M X n) : txM M' X n :=
  ⟨ht.1, by rw [h 0 0 26 (by omega)]; exact ht.2.1, fun i hi => by rw [h 0 19 i (by omega)]; exact ht.2.2 i hi⟩
/-- what is kept of a statement -/
def rec_ (X : jm_X) (M : jm_M) (W s a : Nat) : Prop := M 0 20 s = nI (X a) ∧ M 0 21 s = nI a ∧
  (X a = 112 → M 0 22 (3 * s) = nI (nm X (a + 1) 2) ∧ M 0 22 (3 * s + 1) = nI (nm X (a + 3) 1) ∧ M 0 22 (3 * s + 2) = nI (nm X (a + 4) 2)) ∧
  (X a = 98 → M 0 22 (3 * s) = nI (nm X (a + 1) 1) ∧ M 0 22 (3 * s + 1) = nI (nm X (a + 2) 1) ∧ M 0 22 (3 * s + 2) = nI (nm X (a + 3) 1) ∧ M 0 23 s = nI (a + 4) ∧ M 0 24 s = nI (tW X (a + 4))) ∧
  (X a = 114 ∨ X a = 104 → M 0 22 (3 * s) = nI (nm X (a + 1) 1) ∧ M 0 23 s = nI (a + 2) ∧ M 0 24 s = nI (tW X (a + 2))) ∧
  (X a = 119 → M 0 22 (3 * s) = nI (nm X (a + 1) 2)) ∧
  (X a = 108 → ∃ w, M 0 23 s = nI w ∧ w + nS X (a + 1) ≤ W ∧ M 0 24 s = nI (nS X (a + 1)) ∧ ∀ k, k < nS X (a + 1) → M 0 25 (w + k) = nI (stK (X (qS X (a + 1) k))) ∧ M 0 26 (w + k) = nI (sN X (qS X (a + 1) k)))
theorem rec_.keep {X : jm_X} {M M' : jm_M} {W W' s a s' : Nat} (h : rec_ X M W s a) (hw : wrT s' W M M') (hs : s < s') (hW : W ≤ W') : rec_ X M' W' s a := by
  obtain ⟨h1, h2, h3, h4, h5, h6, h7⟩ := h
  refine ⟨by rw [hw 0 20 s (by omega)]; exact h1, by rw [hw 0 21 s (by omega)]; exact h2, fun c => ?_, fun c => ?_, fun c => ?_, fun c => ?_, fun c => ?_⟩
  · rw [hw 0 22 _ (by omega), hw 0 22 _ (by omega), hw 0 22 _ (by omega)]; exact h3 c
  · rw [hw 0 22 _ (by omega), hw 0 22 _ (by omega), hw 0 22 _ (by omega), hw 0 23 _ (by omega), hw 0 24 _ (by omega)]; exact h4 c
  · rw [hw 0 22 _ (by omega), hw 0 23 _ (by omega), hw 0 24 _ (by omega)]; exact h5 c
  · rw [hw 0 22 _ (by omega)]; exact h6 c
  · obtain ⟨w, w1, w2, w3, w4⟩ := h7 c
    refine ⟨w, by rw [hw 0 23 _ (by omega)]; exact w1, by omega, by rw [hw 0 24 _ (by omega)]; exact w3, fun k hk => ?_⟩
    rw [hw 0 25 _ (by omega), hw 0 26 _ (by omega)]
    exact w4 k hk
section
variable {M : jm_M} {X : jm_X} {n : Nat}
theorem M_sign (h : txM M X n) {i : Nat} (hi : i < 1000) (hp : M 0 0 27 = nI i) : sM_sign M = some (sgn (X i)) := by
  have hn := h.1.1
  unfold sM_sign
  rw [hp, h.2.1]
  unfold sgn
  by_cases c : i < n
  · have := h.1.2.1 i c
    rw [if_neg (zb_nle c (by omega)), zb_rd (by omega) (by omega), zb_bs, h.2.2 i c, if_neg (by omega)]
  · rw [if_pos (zb_yle (by omega) (by omega)), if_pos (h.1.2.2 i (by omega))]
theorem M_isInD (hX : txX X n) (i : Nat) : sM_isIn (sgn (X i)) 48 57 = some (if isD (X i) then 1 else 0) := by
  have a : (sgn (X i) < (48 : Int32)) = (X i < 48 ∨ X i = 999) := sgn_lt (k := 48) hX (by omega)
  have b : ((57 : Int32) < sgn (X i)) = (57 < X i ∧ ¬ X i = 999) := sgn_gt (k := 57) hX (by omega)
  unfold sM_isIn
  by_cases c : X i < 48 ∨ X i = 999
  · rw [if_pos (a.mpr c), if_neg (by omega)]
  · rw [if_neg (fun z => c (a.mp z))]
    by_cases d : 57 < X i
    · rw [if_pos (b.mpr ⟨d, fun e => c (Or.inr e)⟩), if_neg (by omega)]
    · rw [if_neg (fun z => d (b.mp z).1), if_pos (by omega)]
theorem M_isInL (hX : txX X n) (i : Nat) : sM_isIn (sgn (X i)) 97 122 = some (if isL (X i) then 1 else 0) := by
  have a : (sgn (X i) < (97 : Int32)) = (X i < 97 ∨ X i = 999) := sgn_lt (k := 97) hX (by omega)
  have b : ((122 : Int32) < sgn (X i)) = (122 < X i ∧ ¬ X i = 999) := sgn_gt (k := 122) hX (by omega)
  unfold sM_isIn
  by_cases c : X i < 97 ∨ X i = 999
  · rw [if_pos (a.mpr c), if_neg (by omega)]
  · rw [if_neg (fun z => c (a.mp z))]
    by_cases d : 122 < X i
    · rw [if_pos (b.mpr ⟨d, fun e => c (Or.inr e)⟩), if_neg (by omega)]
    · rw [if_neg (fun z => d (b.mp z).1), if_pos (by omega)]
def rdP (M : jm_M) (i : Nat) : jm_M := jm_up M 0 0 27 (nI i)
theorem rdP_n {M : jm_M} {i a j k : Nat} (h : ¬ (a = 0 ∧ j = 0 ∧ k = 27)) : rdP M i a j k = M a j k := zb_up_n h
theorem rdP_tx (h : txM M X n) (i : Nat) : txM (rdP M i) X n := ⟨h.1, by rw [rdP_n (by omega)]; exact h.2.1, fun i hi => by rw [rdP_n (by omega)]; exact h.2.2 i hi⟩
theorem rdP_2 {i j : Nat} : jm_up (rdP M i) 0 0 27 (nI j) = rdP M j := by
  funext a b k
  unfold rdP
  by_cases h : a = 0 ∧ b = 0 ∧ k = 27
  · obtain ⟨rfl, rfl, rfl⟩ := h
    rw [zb_up_s, zb_up_s]
  · rw [zb_up_n h, zb_up_n h, zb_up_n h]
theorem rdP_self {i : Nat} (h : M 0 0 27 = nI i) : rdP M i = M := by
  funext a b k
  unfold rdP
  by_cases q : a = 0 ∧ b = 0 ∧ k = 27
  · obtain ⟨rfl, rfl, rfl⟩ := q
    rw [zb_up_s, h]
  · rw [zb_up_n q]
theorem rdP_w {i : Nat} : jm_wf (rdP M i) 0 27 (rdP M i 0 0 27 + 1) = some (rdP M (i + 1)) := by
  rw [wf_up, show rdP M i 0 0 27 = nI i from zb_up_s, nI_1, rdP_2]
theorem nm_S (X : jm_X) (i k : Nat) : nm X i (k + 1) = 10 * nm X i k + (X (i + k) - 48) := rfl
theorem M_number (h : txM M X n) {i k : Nat} (hi : i < 200) (hk : k < 200) (hp : M 0 0 27 = nI i) : sM_number M (nI k) = some (if dC X i k = k then nI (nm X i k) else -9, rdP M (i + dC X i k)) := by
  have hd := dC_le X k i
  have stp : ∀ j, j < dC X i k → sM_number_L4 (nI k) (nI (nm X i j), nI j, rdP M (i + j)) = some (.inl (nI (nm X i (j + 1)), nI (j + 1), rdP M (i + (j + 1)))) := by
    intro j hj
    have hD := dC_dig X k i j hj
    unfold sM_number_L4
    simp only []
    rw [if_neg (zb_nle (by omega) (by omega)), M_sign (rdP_tx h (i + j)) (i := i + j) (by omega) zb_up_s, zb_bs, M_isInD h.1, zb_bs, if_pos hD, zb_i10, zb_bs, zb_bs, rdP_w, zb_bs, nI_1]
    have e : (10 : Int32) * nI (nm X i j) + sgn (X (i + j)) - 48 = nI (nm X i (j + 1)) := by
      unfold sgn
      rw [if_neg (by omega), show (10 : Int32) = nI 10 from rfl, pk_mul, nI_add, show (48 : Int32) = nI 48 from rfl, pk_sub (by omega), nm_S]
      congr 1
      omega
    rw [e]
    rfl
  unfold sM_number
  by_cases c : dC X i k = k
  · rw [if_pos c]
    refine zb_forB (fun j => (nI (nm X i j), nI j, rdP M (i + j))) (.inl (nI (nm X i (dC X i k)), rdP M (i + dC X i k))) (dC X i k) (by
      show (nI 0, nI 0, rdP M i) = _
      rw [rdP_self hp]
      rfl) stp ?_ (by omega) (by
      show some (nI (nm X i (dC X i k)), rdP M (i + dC X i k)) = _
      rw [c])
    unfold sM_number_L4
    simp only []
    rw [if_pos (zb_yle (by omega) (by omega))]
  · rw [if_neg c]
    have hs := dC_stop X k i (by omega)
    refine zb_forB (fun j => (nI (nm X i j), nI j, rdP M (i + j))) (.inr (-9, rdP M (i + dC X i k))) (dC X i k) (by
      show (nI 0, nI 0, rdP M i) = _
      rw [rdP_self hp]
      rfl) stp ?_ (by omega) rfl
    unfold sM_number_L4
    simp only []
    rw [if_neg (zb_nle (by omega) (by omega)), M_sign (rdP_tx h (i + dC X i k)) (i := i + dC X i k) (by omega) zb_up_s, zb_bs, M_isInD h.1, zb_bs, if_neg hs, zb_i00]
theorem nm_lt {i k : Nat} (h : dC X i k = k) : nm X i k < 10 ^ k := by
  have key : ∀ j, j ≤ k → nm X i j < 10 ^ j := by
    intro j
    induction j with
    | zero => intro _; exact Nat.one_pos
    | succ j ih =>
      intro hj
      have a := ih (by omega)
      have b := dC_dig X k i j (by omega)
      rw [nm_S, Nat.pow_succ]
      omega
  exact key k (Nat.le_refl _)
theorem M_readsDigits (h : txM M X n) {i k t s w : Nat} (hi : i < 200) (hk : k < 3) (hp : M 0 0 27 = nI i) (ht : M 0 0 29 = nI t) (ht2 : t < 147) (hs : 3 * s ≤ t) (hs2 : t ≤ 3 * s + 2) : ∃ M', sM_readsDigits M (nI k) = some (if dC X i k = k then 1 else 0, M') ∧ wrS s w M M' ∧ M' 0 0 27 = nI (i + dC X i k) ∧ M' 0 0 29 = nI (t + 1) ∧ M' 0 0 30 = M 0 0 30 ∧ (dC X i k = k → M' 0 22 t = nI (nm X i k)) ∧ (∀ x, ¬ x = t → M' 0 22 x = M 0 22 x) := by
  unfold sM_readsDigits
  rw [M_number h hi (by omega) hp, zb_bs]
  simp only []
  generalize hv : (if dC X i k = k then nI (nm X i k) else (-9 : Int32)) = v
  rw [ht, zb_wa ht2 (by omega), zb_bs, zb_up_n (by omega), rdP_n (by omega), ht, nI_1, wf_up, zb_bs, zb_up_s, show (1 : Int32) = nI 1 from rfl, pk_sub (by omega), Nat.add_sub_cancel, zb_rd ht2 (by omega), zb_bs, zb_up_n (by omega), zb_up_s]
  refine ⟨jm_up (jm_up (rdP M (i + dC X i k)) 0 22 t v) 0 0 29 (nI (t + 1)), ?_, ?_, ?_, ?_, ?_, ?_, ?_⟩
  · by_cases c : dC X i k = k
    · have := nm_lt (X := X) c
      have p : 10 ^ k ≤ 10 ^ 2 := Nat.pow_le_pow_right (by omega) (by omega)
      rw [if_pos c] at hv ⊢
      rw [← hv, if_neg (zb_nd (by omega))]
    · rw [if_neg c] at hv ⊢
      rw [← hv, if_pos (by decide)]
  · exact ((wrS.rf.up (by omega)).up (by omega)).up (by omega)
  · rw [zb_up_n (by omega), zb_up_n (by omega)]; exact zb_up_s
  · exact zb_up_s
  · rw [zb_up_n (by omega), zb_up_n (by omega), rdP_n (by omega)]
  · intro c
    rw [if_pos c] at hv
    rw [zb_up_n (by omega), zb_up_s, hv]
  · intro x hx
    rw [zb_up_n (by omega), zb_up_n (by omega), rdP_n (by omega)]
theorem M_readsTitle (h : txM M X n) {i s w : Nat} (hi : i < 200) (hp : M 0 0 27 = nI i) (hst : M 0 0 28 = nI s) (hs : s < 49) : ∃ M', sM_readsTitle M = some (if tW X i = 0 then 0 else 1, M') ∧ wrS s w M M' ∧ M' 0 0 27 = nI (i + tW X i) ∧ M' 0 0 30 = M 0 0 30 ∧ M' 0 23 s = nI i ∧ M' 0 24 s = nI (tW X i) ∧ (∀ x, M' 0 22 x = M 0 22 x) := by
  obtain ⟨t1, t2, t3⟩ := tW_at h.1 i
  unfold sM_readsTitle
  rw [hst, zb_wa hs (by omega), zb_bs, hp]
  have hx := (wrS.up (s := s) (w := w) (M := M) wrS.rf (j := 23) (k := s) (v := nI i) (by omega)).tx h
  have e0 : rdP (jm_up M 0 23 s (nI i)) i = jm_up M 0 23 s (nI i) := rdP_self (by rw [zb_up_n (by omega)]; exact hp)
  have stp : (jm_loop sM_readsTitle_L13 jm_N (jm_up M 0 23 s (nI i))) = some (rdP (jm_up M 0 23 s (nI i)) (i + tW X i)) := by
    refine zb_for (fun j => rdP (jm_up M 0 23 s (nI i)) (i + j)) (tW X i) e0 (fun j hj => ?_) ?_ (by omega)
    · unfold sM_readsTitle_L13
      rw [M_sign (rdP_tx hx (i + j)) (i := i + j) (by omega) zb_up_s, zb_bs, M_isInL h.1, zb_bs, if_pos (t1 j hj), zb_i10, rdP_w, zb_bs]
      rfl
    · unfold sM_readsTitle_L13
      rw [M_sign (rdP_tx hx (i + tW X i)) (i := i + tW X i) (by omega) zb_up_s, zb_bs, M_isInL h.1, zb_bs, if_neg t2, zb_i00]
  have r28 : rdP (jm_up M 0 23 s (nI i)) (i + tW X i) 0 0 28 = nI s := by rw [rdP_n (by omega), zb_up_n (by omega)]; exact hst
  have r23 : rdP (jm_up M 0 23 s (nI i)) (i + tW X i) 0 23 s = nI i := by rw [rdP_n (by omega), zb_up_s]
  have r27 : rdP (jm_up M 0 23 s (nI i)) (i + tW X i) 0 0 27 = nI (i + tW X i) := zb_up_s
  rw [stp, zb_bs, r28, zb_rd hs (by omega), zb_bs, r23, r27, pk_sub (by omega), Nat.add_sub_cancel_left, zb_wa hs (by omega), zb_bs, zb_up_n (show ¬ (0 = 0 ∧ 0 = 24 ∧ 28 = s) by omega), r28, zb_rd hs (by omega), zb_bs, zb_up_s]
  refine ⟨jm_up (rdP (jm_up M 0 23 s (nI i)) (i + tW X i)) 0 24 s (nI (tW X i)), ?_, ?_, ?_, ?_, ?_, zb_up_s, ?_⟩
  · by_cases c : tW X i = 0
    · rw [if_pos c, c, if_pos (by decide)]
    · rw [if_neg c, if_neg (show ¬ nI (tW X i) ≤ 0 from zb_nle (b := 0) (by omega) (by omega))]
  · exact ((wrS.rf.up (by omega)).up (by omega)).up (by omega)
  · rw [zb_up_n (by omega)]; exact zb_up_s
  · rw [zb_up_n (by omega), rdP_n (by omega), zb_up_n (by omega)]
  · rw [zb_up_n (by omega), rdP_n (by omega), zb_up_s]
  · intro x
    rw [zb_up_n (by omega), rdP_n (by omega), zb_up_n (by omega)]
end
