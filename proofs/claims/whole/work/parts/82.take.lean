/-! numbers and titles, taken from a text -/
noncomputable def tvP (X : jm_X) (i k : Nat) : Nat := zf (fun j v => if j < 4 then v + (X (i + j) - 96) * 27 ^ (3 - j) else v) k 0
noncomputable def ttV (X : jm_X) (i : Nat) : Int32 := if 4 < tW X i then -1 else nI (tvP X i (tW X i))
theorem tvP_S (X : jm_X) (i k : Nat) : tvP X i (k + 1) = if k < 4 then tvP X i k + (X (i + k) - 96) * 27 ^ (3 - k) else tvP X i k := rfl
theorem longer_at {t l d : Nat} {x : Int32} (hl : l < 4) (hx : x + 1 = nI d) : sI_longer (nI t) (nI l) x = some (nI (t + d * 27 ^ (3 - l))) := by
  unfold sI_longer
  rw [hx, zb_bs, nI_1, zb_bs]
  rw [zb_from (f := sI_longer_L9) (fun j => (nI (d * 27 ^ (j - (l + 1))), nI j)) (e := nI (d * 27 ^ (3 - l))) (l + 1) 4 (by omega) (by simp only [Nat.sub_self, Nat.pow_zero, Nat.mul_one]) ?_ ?_ (by omega)]
  · rw [zb_bs, nI_add]
  · intro j h1 h2
    unfold sI_longer_L9
    rw [if_neg (show ¬ (4 : Int32) ≤ nI j from zb_nle (a := 4) (by omega) (by omega)), show (27 : Int32) = nI 27 from rfl]
    simp only [zb_bs, pk_mul, nI_1]
    rw [Nat.mul_assoc, ← Nat.pow_succ, show j + 1 - (l + 1) = (j - (l + 1)) + 1 by omega]
  · unfold sI_longer_L9
    rw [if_pos (show (4 : Int32) ≤ nI 4 from zb_yle (Nat.le_refl 4) (by omega)), show 4 - (l + 1) = 3 - l by omega]
section
variable {C : jm_M} {X : jm_X} {n : Nat}
theorem S_takeNumber (h : txC C X n) {i k : Nat} (hi : i < 200) (hk : k < 10) (hd : dC X i k = k) : sS_takeNumber (atP C i) (nI k) = some (nI (nm X i k), atP C (i + k)) := by
  unfold sS_takeNumber
  refine zb_forB (fun j => (nI (nm X i j), nI j, atP C (i + j))) (nI (nm X i k), atP C (i + k)) k rfl (fun j hj => ?_) ?_ (by omega) rfl
  · have hD := dC_dig X k i j (by omega)
    unfold sS_takeNumber_L4
    simp only []
    have e : (10 : Int32) * nI (nm X i j) + sgn (X (i + j)) - 48 = nI (nm X i (j + 1)) := by
      unfold sgn
      rw [if_neg (by omega), show (10 : Int32) = nI 10 from rfl, pk_mul, nI_add, show (48 : Int32) = nI 48 from rfl, pk_sub (by omega), nm_S]
      congr 1
      omega
    rw [if_neg (zb_nle hj (by omega)), S_here h (by omega), zb_bs, zb_bs, atP_w, zb_bs, e, nI_1]
    rfl
  · unfold sS_takeNumber_L4
    simp only []
    rw [if_pos (zb_yle (Nat.le_refl _) (by omega))]
theorem S_takeTitle (h : txC C X n) {i : Nat} (hi : i < 200) : sS_takeTitle (atP C i) = some (ttV X i, atP C (i + tW X i)) := by
  obtain ⟨t1, t2, t3⟩ := tW_at h.1 i
  have hn := h.1.1
  unfold sS_takeTitle ttV
  refine zb_forB (fun j => (nI (tvP X i j), nI j, atP C (i + j))) (nI (tvP X i (tW X i)), nI (tW X i), atP C (i + tW X i)) (tW X i) rfl (fun j hj => ?_) ?_ (by omega) ?_
  · have hl := t1 j hj
    have hx := X_lt h.1 (show ¬ X (i + j) = 999 by omega)
    unfold sS_takeTitle_L4
    simp only []
    rw [atP_1, h.2.1, atP_p, if_neg (zb_nle hx (by omega)), S_here h (by omega), zb_bs, S_isLetter h.1, zb_bs, if_pos hl, zb_i10, tvP_S, nI_1, wf_up, nI_1, atP_2]
    by_cases c : j < 4
    · have e : sgn (X (i + j)) - 97 + 1 = nI (X (i + j) - 96) := by
        unfold sgn
        rw [if_neg (by omega), show (97 : Int32) = nI 97 from rfl, pk_sub (by omega), nI_1]
        congr 1
        omega
      rw [if_neg (show ¬ (4 : Int32) ≤ nI j from zb_nle (a := 4) c (by omega)), zb_bs, longer_at c e, zb_bs, zb_bs, zb_bs, if_pos c]
      rfl
    · rw [if_pos (show (4 : Int32) ≤ nI j from zb_yle (a := 4) (by omega) (by omega)), zb_bs, zb_bs, if_neg c]
      rfl
  · unfold sS_takeTitle_L4
    simp only []
    rw [atP_1, h.2.1, atP_p, S_here h (by omega), zb_bs, S_isLetter h.1, zb_bs, if_neg t2, zb_i00, ite_self]
  · show (if (4 : Int32) < nI (tW X i) then _ else _) = _
    by_cases c : 4 < tW X i
    · rw [if_pos (show (4 : Int32) < nI (tW X i) by rw [show (4 : Int32) = nI 4 from rfl, zb_lt (by omega) (by omega)]; exact c), if_pos c]
    · rw [if_neg (show ¬ (4 : Int32) < nI (tW X i) by rw [show (4 : Int32) = nI 4 from rfl, zb_lt (by omega) (by omega)]; exact c), if_neg c]
end
noncomputable def eD (X : jm_X) (i k : Nat) : Nat := if k < tW X i then X (i + k) - 96 else 0
theorem tvP_tl {X : jm_X} {i : Nat} (h0 : 0 < tW X i) (h4 : tW X i ≤ 4) : tvP X i (tW X i) = tl_v (eD X i 0) (eD X i 1) (eD X i 2) (eD X i 3) := by
  unfold eD tvP tl_v
  have hl : tW X i = 1 ∨ tW X i = 2 ∨ tW X i = 3 ∨ tW X i = 4 := by omega
  rcases hl with l | l | l | l
  all_goals
    rw [l]
    simp [zf]
  all_goals omega
theorem eD_d {X : jm_X} {n i : Nat} (hX : txX X n) (h0 : 0 < tW X i) (h4 : tW X i ≤ 4) : tl_d (eD X i 0) (eD X i 1) (eD X i 2) (eD X i 3) := by
  obtain ⟨t1, -⟩ := tW_at hX i
  have e : ∀ k, eD X i k ≤ 26 ∧ (k < tW X i → 1 ≤ eD X i k) ∧ (¬ k < tW X i → eD X i k = 0) := by
    intro k
    unfold eD
    by_cases c : k < tW X i
    · have := t1 k c
      rw [if_pos c]
      exact ⟨by omega, fun _ => by omega, fun z => absurd c z⟩
    · rw [if_neg c]
      exact ⟨by omega, fun z => absurd z c, fun _ => rfl⟩
  obtain ⟨a0, b0, c0⟩ := e 0
  obtain ⟨a1, b1, c1⟩ := e 1
  obtain ⟨a2, b2, c2⟩ := e 2
  obtain ⟨a3, b3, c3⟩ := e 3
  refine ⟨b0 h0, a0, a1, a2, a3, fun z => ?_, fun z => ?_⟩
  · refine c2 (fun q => ?_)
    have := b1 (by omega)
    omega
  · refine c3 (fun q => ?_)
    have := b2 (by omega)
    omega
def isT_ (g : jm_T) (X : jm_X) (i b : Nat) : Prop := g 10 b = nI (tW X i) ∧ ∀ k, k < tW X i → g 11 (4 * b + k) = nI (X (i + k) - 97)
theorem tt_isT {T g : jm_T} {X : jm_X} {n i b : Nat} (hX : txX X n) (ht : ti T g b) (h0 : 0 < tW X i) : (T 11 b = ttV X i) = isT_ g X i b := by
  obtain ⟨e1, e2⟩ := zb_in_N ht.1 (by omega)
  have l1 := ht.2.1
  have d1 := ti_d ht
  have v1 := tl_lt d1
  unfold ttV isT_
  by_cases c : 4 < tW X i
  · rw [if_pos c, ht.2.2.2]
    refine propext ⟨fun e => ?_, fun e => ?_⟩
    · exact absurd (show (0 : Int32) ≤ -1 by rw [← e]; exact zb_nd2 (by omega)) (by decide)
    · have e := e.1
      rw [e1, zb_eq (by omega) (by have := (tW_at hX i).2.2; omega)] at e
      omega
  · have d2 := eD_d hX h0 (show tW X i ≤ 4 by omega)
    have v2 := tl_lt d2
    obtain ⟨p0, p1, p2, p3⟩ := tl_dig d1
    obtain ⟨q0, q1, q2, q3⟩ := tl_dig d2
    obtain ⟨t1, -⟩ := tW_at hX i
    rw [if_neg c, tvP_tl h0 (by omega), ht.2.2.2, zb_eq (by omega) (by omega)]
    have dk : ∀ k, k < 4 → ((dg g b k = eD X i k) ↔ ((k < zb_N (g 10 b) ↔ k < tW X i) ∧ (k < zb_N (g 10 b) → k < tW X i → g 11 (4 * b + k) = nI (X (i + k) - 97)))) := by
      intro k hk
      unfold dg eD
      by_cases a : k < zb_N (g 10 b)
      · obtain ⟨x1, x2⟩ := zb_in_N (ht.2.2.1 k a) (by omega)
        rw [if_pos a]
        by_cases f : k < tW X i
        · have := t1 k f
          rw [if_pos f]
          refine ⟨fun e => ⟨⟨fun _ => f, fun _ => a⟩, fun _ _ => ?_⟩, fun e => ?_⟩
          · rw [x1]
            congr 1
            omega
          · have := e.2 a f
            rw [this, zb_N_nI (by omega)]
            omega
        · rw [if_neg f]
          exact ⟨fun e => by omega, fun e => absurd (e.1.1 a) f⟩
      · rw [if_neg a]
        by_cases f : k < tW X i
        · have := t1 k f
          rw [if_pos f]
          exact ⟨fun e => by omega, fun e => absurd (e.1.2 f) a⟩
        · rw [if_neg f]
          exact ⟨fun _ => ⟨⟨fun z => absurd z a, fun z => absurd z f⟩, fun z => absurd z a⟩, fun _ => rfl⟩
    refine propext ⟨fun e => ?_, fun e => ?_⟩
    · have f : ∀ k, k < 4 → dg g b k = eD X i k := by
        intro k hk
        rw [e] at p0 p1 p2 p3
        rcases (show k = 0 ∨ k = 1 ∨ k = 2 ∨ k = 3 by omega) with rfl | rfl | rfl | rfl
        · omega
        · omega
        · omega
        · omega
      have g0 := (dk 0 (by omega)).1 (f 0 (by omega))
      have g1 := (dk 1 (by omega)).1 (f 1 (by omega))
      have g2 := (dk 2 (by omega)).1 (f 2 (by omega))
      have g3 := (dk 3 (by omega)).1 (f 3 (by omega))
      have el : zb_N (g 10 b) = tW X i := by
        have a0 := g0.1
        have a1 := g1.1
        have a2 := g2.1
        have a3 := g3.1
        omega
      refine ⟨by rw [e1, el], fun k hk => ?_⟩
      exact ((dk k (by omega)).1 (f k (by omega))).2 (by omega) hk
    · obtain ⟨f1, f2⟩ := e
      have el : zb_N (g 10 b) = tW X i := by rw [f1, zb_N_nI (by omega)]
      have f : ∀ k, k < 4 → dg g b k = eD X i k := fun k hk => (dk k hk).2 ⟨by rw [el], fun _ z => f2 k z⟩
      rw [f 0 (by omega), f 1 (by omega), f 2 (by omega), f 3 (by omega)]
/-! the same by the reference -/
def txR (M : jm_M) (X : jm_X) (n : Nat) : Prop := txX X n ∧ ∀ i, i < n → M 0 19 i = nI (X i)
section
variable {T : jm_T} {M : jm_M} {X : jm_X} {n : Nat}
theorem M_isTitled (hx : txR M X n) (hc : ctT T) (hr : TR T (M 0)) {b i : Nat} (hb : b < nb T) (h0 : 0 < tW X i) (hi : i < 200) : sM_isTitled M (nI b) (nI i) (nI (tW X i)) = some (if T 11 b = ttV X i then 1 else 0) := by
  have h10 := hc.b.2
  have ht := (hr.2.2.1 b hb).2.2.2.2.2
  obtain ⟨e1, e2⟩ := zb_in_N ht.1 (by omega)
  obtain ⟨t1, t2, t3⟩ := tW_at hx.1 i
  have ev := tt_isT hx.1 ht h0
  unfold sM_isTitled
  rw [zb_rd (by omega) (by omega), zb_bs]
  by_cases c : M 0 10 b = nI (tW X i)
  · have h4 : tW X i ≤ 4 := by
      rw [e1, zb_eq (by omega) (by omega)] at c
      omega
    rw [if_pos c, zb_bs]
    obtain ⟨r, hf⟩ := zb_ff_ex (fun k => ¬ M 0 11 (4 * b + k) = nI (X (i + k) - 97)) (tW X i)
    have stp : ∀ k, k < tW X i → sM_isTitled_L20 (nI (tW X i)) M (nI b) (nI i) (1, nI k) = some (.inl ((if M 0 11 (4 * b + k) = nI (X (i + k) - 97) then 1 else 0), nI (k + 1))) := by
      intro k hk
      have hl := t1 k hk
      have hlt := X_lt hx.1 (show ¬ X (i + k) = 999 by omega)
      have hn := hx.1.1
      unfold sM_isTitled_L20
      simp only []
      rw [if_neg (zb_nle hk (by omega)), if_neg (show ¬ (1 : Int32) = 0 by decide), zb_4, zb_rd (by omega) (by omega), zb_bs, nI_add, zb_rd (by omega) (by omega), zb_bs, hx.2 _ hlt, show (97 : Int32) = nI 97 from rfl, pk_sub (by omega), nI_1]
      split <;> rfl
    cases r with
    | none =>
      have hall : ∀ k, k < tW X i → M 0 11 (4 * b + k) = nI (X (i + k) - 97) := fun k hk => Classical.byContradiction (hf k hk)
      rw [if_pos (ev.mpr ⟨c, hall⟩)]
      refine zb_forB (fun k => (1, nI k)) 1 (tW X i) rfl (fun k hk => by rw [stp k hk, if_pos (hall k hk)]) ?_ (by omega) rfl
      unfold sM_isTitled_L20
      simp only []
      rw [if_pos (zb_yle (Nat.le_refl _) (by omega))]
    | some k =>
      obtain ⟨hk, h2, h3⟩ := hf
      rw [if_neg (fun z => h2 ((ev.mp z).2 k hk))]
      refine zb_forB (fun j => if j ≤ k then (1, nI j) else (0, nI j)) 0 (k + 1) (by rw [if_pos (Nat.zero_le _)]; rfl) (fun j hj => ?_) ?_ (by omega) rfl
      · rw [if_pos (show j ≤ k by omega), stp j (by omega)]
        rcases Nat.lt_or_ge j k with z | z
        · rw [if_pos (Classical.byContradiction (h3 j z)), if_pos (by omega)]
        · have : j = k := by omega
          subst this
          rw [if_neg h2, if_neg (by omega)]
      · rw [if_neg (by omega)]
        unfold sM_isTitled_L20
        simp only []
        rw [if_pos trivial, ite_self]
  · rw [if_neg c, zb_bs, if_neg (fun z => c (ev.mp z).1)]
    refine zb_forB (fun k => (0, nI k)) 0 0 rfl (fun k hk => by omega) ?_ (by omega) rfl
    unfold sM_isTitled_L20
    simp only []
    rw [if_pos trivial, ite_self]
theorem M_titledBy (hx : txR M X n) (hc : ctT T) (hr : TR T (M 0)) {i s : Nat} (h0 : 0 < tW X i) (hi : i < 200) (hs : s < 49) (h23 : M 0 23 s = nI i) (h24 : M 0 24 s = nI (tW X i)) {r : Option Nat} (hf : zb_ff (fun b => T 11 b = ttV X i) (nb T) r) : sM_titledBy M (nI s) = some (zb_o r) := by
  have h := hc.b
  have stp : ∀ k, k < nb T → sM_titledBy_L2 M (nI s) (nI k) = if T 11 k = ttV X i then some (.inr (.inr (nI k))) else some (.inl (nI (k + 1))) := by
    intro k hk
    unfold sM_titledBy_L2
    rw [hr.1.2.1, h.1, if_neg (zb_nle hk (by omega)), zb_rd hs (by omega), zb_bs, zb_rd hs (by omega), zb_bs, h23, h24, M_isTitled hx hc hr hk h0 hi, zb_bs, nI_1]
    by_cases c : T 11 k = ttV X i
    · rw [if_pos c, zb_i10, if_pos c]
    · rw [if_neg c, zb_i00, if_neg c]
  unfold sM_titledBy
  cases r with
  | none =>
    refine zb_forB (fun k => nI k) (.inl ()) (nb T) rfl (fun k hk => ?_) ?_ (by omega) rfl
    · rw [stp k hk, if_neg (hf k hk)]
    · unfold sM_titledBy_L2
      rw [hr.1.2.1, h.1, if_pos (zb_yle (Nat.le_refl _) (by omega))]
  | some k =>
    obtain ⟨hk, h2, h3⟩ := hf
    refine zb_forB (fun k => nI k) (.inr (nI k)) k rfl (fun j hj => ?_) ?_ (by omega) rfl
    · rw [stp j (by omega), if_neg (h3 j hj)]
    · rw [stp k hk, if_pos h2]
end
