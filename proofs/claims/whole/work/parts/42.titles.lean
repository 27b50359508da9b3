/-! titles: their letters, their order -/
noncomputable def zc (P : Nat → Prop) [DecidablePred P] (n : Nat) : Nat := zf (fun k v => if P k then v + 1 else v) n 0
theorem zc_le (P : Nat → Prop) [DecidablePred P] (n : Nat) : zc P n ≤ n := by
  induction n with
  | zero => exact Nat.le_refl _
  | succ n ih =>
    show (if P n then zc P n + 1 else zc P n) ≤ n + 1
    split <;> omega
theorem zc_mono {P Q : Nat → Prop} [DecidablePred P] [DecidablePred Q] (n : Nat) (h : ∀ k, k < n → P k → Q k) : zc P n ≤ zc Q n := by
  induction n with
  | zero => exact Nat.le_refl _
  | succ n ih =>
    have i := ih (fun k hk => h k (by omega))
    show (if P n then zc P n + 1 else zc P n) ≤ (if Q n then zc Q n + 1 else zc Q n)
    by_cases p : P n
    · rw [if_pos p, if_pos (h n (by omega) p)]; omega
    · rw [if_neg p]; split <;> omega
theorem zc_lt {P Q : Nat → Prop} [DecidablePred P] [DecidablePred Q] (n : Nat) (h : ∀ k, k < n → P k → Q k) {j : Nat} (hj : j < n) (h1 : Q j) (h2 : ¬ P j) : zc P n < zc Q n := by
  induction n with
  | zero => omega
  | succ n ih =>
    show (if P n then zc P n + 1 else zc P n) < (if Q n then zc Q n + 1 else zc Q n)
    rcases Nat.lt_or_ge j n with q | q
    · have i := ih (fun k hk => h k (by omega)) q
      by_cases p : P n
      · rw [if_pos p, if_pos (h n (by omega) p)]; omega
      · rw [if_neg p]; split <;> omega
    · have : j = n := by omega
      subst this
      have i := zc_mono j (P := P) (Q := Q) (fun k hk => h k (by omega))
      rw [if_neg h2, if_pos h1]; omega
theorem zc_congr {P Q : Nat → Prop} [DecidablePred P] [DecidablePred Q] (n : Nat) (h : ∀ k, k < n → (P k ↔ Q k)) : zc P n = zc Q n :=
  Nat.le_antisymm (zc_mono n (fun k hk => (h k hk).1)) (zc_mono n (fun k hk => (h k hk).2))
theorem zc_all (P : Nat → Prop) [DecidablePred P] (n : Nat) (h : ∀ k, k < n → P k) : zc P n = n := by
  induction n with
  | zero => rfl
  | succ n ih =>
    show (if P n then zc P n + 1 else zc P n) = n + 1
    rw [if_pos (h n (by omega)), ih (fun k hk => h k (by omega))]
theorem letterAt_at {v : Nat} (hv : v < 1000000) {k : Nat} (hk : k < 4) : sI_letterAt (nI v) (nI k) = some (nI (v / 27 ^ (3 - k) % 27) - 1) := by
  unfold sI_letterAt
  simp only [zb_bs, nI_1]
  refine zb_fromB (fun j => (nI (v / 27 ^ (j - (k + 1))), nI j)) (nI (v / 27 ^ (3 - k))) (k + 1) 4 (by omega) ?_ ?_ ?_ (by omega) ?_
  · simp only [Nat.sub_self, Nat.pow_zero, Nat.div_one]
  · intro j h1 h2
    unfold sI_letterAt_L6
    have hd : v / 27 ^ (j - (k + 1)) ≤ v := Nat.div_le_self _ _
    rw [if_neg (show ¬ (4 : Int32) ≤ nI j from zb_nle (a := 4) (by omega) (by omega)), show (27 : Int32) = nI 27 from rfl, zb_dv (by omega) (by omega) (by omega), Nat.div_div_eq_div_mul, ← Nat.pow_succ, show j + 1 - (k + 1) = (j - (k + 1)) + 1 by omega]
    simp only [zb_bs, nI_1]
  · unfold sI_letterAt_L6
    rw [if_pos (show (4 : Int32) ≤ nI 4 from zb_yle (Nat.le_refl 4) (by omega)), show 4 - (k + 1) = 3 - k by omega]
  · have hd : v / 27 ^ (3 - k) ≤ v := Nat.div_le_self _ _
    rw [show (27 : Int32) = nI 27 from rfl, zb_rm (by omega) (by omega) (by omega)]
    rfl
theorem tl_dig {d0 d1 d2 d3 : Nat} (h : tl_d d0 d1 d2 d3) : tl_v d0 d1 d2 d3 / 27 ^ 3 % 27 = d0 ∧ tl_v d0 d1 d2 d3 / 27 ^ 2 % 27 = d1 ∧ tl_v d0 d1 d2 d3 / 27 ^ 1 % 27 = d2 ∧ tl_v d0 d1 d2 d3 / 27 ^ 0 % 27 = d3 := by
  obtain ⟨h0, h1, h2, h3, h4, -⟩ := h
  show tl_v d0 d1 d2 d3 / 19683 % 27 = d0 ∧ tl_v d0 d1 d2 d3 / 729 % 27 = d1 ∧ tl_v d0 d1 d2 d3 / 27 % 27 = d2 ∧ tl_v d0 d1 d2 d3 / 1 % 27 = d3
  unfold tl_v
  omega
theorem ofLetter_at {c : Nat} (hc : c < 26) : sI_ofLetter (nI c) = some (nI ((c + 1) * 19683)) := by
  unfold sI_ofLetter sI_longer
  simp only [zb_bs, nI_1]
  rw [show (0 : Int32) + 1 = nI 1 from rfl]
  rw [zb_from (f := sI_longer_L9) (fun j => (nI ((c + 1) * 27 ^ (j - 1)), nI j)) (e := nI ((c + 1) * 19683)) 1 4 (by omega) (by simp only [Nat.sub_self, Nat.pow_zero, Nat.mul_one]) ?_ ?_ (by omega)]
  · simp only [zb_bs, Int32.zero_add]
  · intro j h1 h2
    unfold sI_longer_L9
    rw [if_neg (show ¬ (4 : Int32) ≤ nI j from zb_nle (a := 4) (by omega) (by omega)), show (27 : Int32) = nI 27 from rfl]
    simp only [zb_bs, pk_mul, nI_1]
    rw [Nat.mul_assoc, ← Nat.pow_succ, show j + 1 - 1 = (j - 1) + 1 by omega]
  · unfold sI_longer_L9
    rw [if_pos (show (4 : Int32) ≤ nI 4 from zb_yle (Nat.le_refl 4) (by omega)), show 27 ^ (4 - 1) = 19683 by decide]
/-! ranks -/
noncomputable def tt (T : jm_T) (b : Nat) : Nat := zb_N (T 11 b)
theorem wfT.tx {w : Nat} {T : jm_T} (h : wfT w T) {b : Nat} (hb : b < nb T) : T 11 b = nI (tt T b) ∧ tt T b < 531441 := by
  obtain ⟨k, f, r, v, -, -, -, -, h5, -, -, -, -, e⟩ := h.book hb
  unfold tt
  rw [e, zb_N_nI (by omega)]
  exact ⟨rfl, h5⟩
theorem T_rankOf {C : jm_M} {t w : Nat} (hw : wfT w (C t)) {b : Nat} (hb : b < nb (C t)) : sT_rankOf C t (nI b) = some (nI (zc (fun k => tt (C t) k < tt (C t) b) (nb (C t)))) := by
  have h := hw.1.b
  unfold sT_rankOf
  refine zb_forB (fun n => (nI (zc (fun k => tt (C t) k < tt (C t) b) n), nI n)) _ (nb (C t)) rfl ?_ ?_ (by omega) rfl
  · intro k hk
    unfold sT_rankOf_L4
    obtain ⟨b1, b2⟩ := hw.tx hb
    obtain ⟨k1, k2⟩ := hw.tx hk
    rw [h.1, if_neg (zb_nle hk (by omega)), zb_rd (by omega) (by omega), zb_bs, zb_rd (by omega) (by omega), zb_bs, b1, k1]
    have e : zc (fun k => tt (C t) k < tt (C t) b) (k + 1) = if tt (C t) k < tt (C t) b then zc (fun k => tt (C t) k < tt (C t) b) k + 1 else zc (fun k => tt (C t) k < tt (C t) b) k := rfl
    rw [e]
    simp only [nI_1]
    by_cases q : tt (C t) k < tt (C t) b
    · rw [if_neg (zb_nle q (by omega)), if_pos q]
    · rw [if_pos (zb_yle (by omega) (by omega)), if_neg q]
  · unfold sT_rankOf_L4
    rw [h.1, if_pos (zb_yle (Nat.le_refl _) (by omega))]
theorem M_rankOf {T : jm_T} {M : jm_M} {w : Nat} (hw : wfT w T) (hr : TR T (M 0)) {b : Nat} (hb : b < nb T) : sM_rankOf M (nI b) = some (nI (zc (fun k => tt T k < tt T b) (nb T))) := by
  have h := hw.1.b
  unfold sM_rankOf
  refine zb_forB (fun n => (nI (zc (fun k => tt T k < tt T b) n), nI n)) _ (nb T) rfl ?_ ?_ (by omega) rfl
  · intro k hk
    unfold sM_rankOf_L4
    obtain ⟨b1, b2⟩ := hw.tx hb
    obtain ⟨k1, k2⟩ := hw.tx hk
    obtain ⟨c, c1, c2⟩ := M_compares hr hw.1 hk hb
    rw [b1, k1, zb_le (by omega) (by omega)] at c2
    rw [hr.1.2.1, h.1, if_neg (zb_nle hk (by omega)), c1, zb_bs]
    have e : zc (fun k => tt T k < tt T b) (k + 1) = if tt T k < tt T b then zc (fun k => tt T k < tt T b) k + 1 else zc (fun k => tt T k < tt T b) k := rfl
    rw [e]
    simp only [nI_1, zb_bs, Int32.add_zero]
    by_cases q : tt T k < tt T b
    · rw [if_neg (by rw [c2]; omega), if_pos q]
    · rw [if_pos (by rw [c2]; omega), if_neg q]
  · unfold sM_rankOf_L4
    rw [hr.1.2.1, h.1, if_pos (zb_yle (Nat.le_refl _) (by omega))]
theorem M_ofRank {T : jm_T} {M : jm_M} {w : Nat} (hw : wfT w T) (hr : TR T (M 0)) {m : Nat} (hm : m < 1000) {r : Option Nat} (hf : zb_ff (fun s => zc (fun k => tt T k < tt T s) (nb T) = m) (nb T) r) : sM_ofRank M (nI m) = some (zb_o r) := by
  have h := hw.1.b
  have stp : ∀ k, k < nb T → sM_ofRank_L2 M (nI m) (nI k) = if zc (fun j => tt T j < tt T k) (nb T) = m then some (.inr (.inr (nI k))) else some (.inl (nI (k + 1))) := by
    intro k hk
    have := zc_le (fun j => tt T j < tt T k) (nb T)
    unfold sM_ofRank_L2
    rw [hr.1.2.1, h.1, if_neg (zb_nle hk (by omega)), M_rankOf hw hr hk, zb_bs, nI_1]
    by_cases q : zc (fun j => tt T j < tt T k) (nb T) = m
    · rw [if_pos (by rw [q]), if_pos q]
    · rw [if_neg (by rw [zb_eq (by omega) (by omega)]; exact q), if_neg q]
  unfold sM_ofRank
  cases r with
  | none =>
    refine zb_forB (fun k => nI k) (.inl ()) (nb T) rfl (fun k hk => ?_) ?_ (by omega) rfl
    · rw [stp k hk, if_neg (hf k hk)]
    · unfold sM_ofRank_L2
      rw [hr.1.2.1, h.1, if_pos (zb_yle (Nat.le_refl _) (by omega))]
  | some k =>
    obtain ⟨hk, h2, h3⟩ := hf
    refine zb_forB (fun k => nI k) (.inr (nI k)) k rfl (fun j hj => ?_) ?_ (by omega) rfl
    · rw [stp j (by omega), if_neg (h3 j hj)]
    · rw [stp k hk, if_pos h2]
