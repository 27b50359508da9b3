/-! pans, titles, prices of the reference -/
abbrev hbit (x : Int32) (b : Nat) : Prop := ((x >>> (nI b &&& 31)) &&& 1) = 1
noncomputable def ts_overW (T : jm_T) (x : Int32) (p q n : Nat) : Int32 := zf (fun b v => if ts_on T p q b ∨ hbit x b then v + ts_comes T p q b else v) n (-T 2 p - T 2 q)
theorem M_has {x : Int32} {b : Nat} : sM_has x (nI b) = some (if hbit x b then 1 else 0) := by
  unfold sM_has
  split <;> rfl
theorem zb_4 {a k : Nat} : 4 * nI a + nI k = nI (4 * a + k) := by rw [show (4 : Int32) = nI 4 from rfl, pk_mul, nI_add]
theorem zb_4' {a : Nat} : 4 * nI a = nI (4 * a) := by rw [show (4 : Int32) = nI 4 from rfl, pk_mul]
theorem hbit0 (b : Nat) : ¬ hbit 0 b := by
  unfold hbit
  simp
section
variable {T : jm_T} {M : jm_M} {w : Nat}
theorem M_overWith (hw : wfT w T) (hw2 : w < 1000000) (hr : TR T (M 0)) {p q : Nat} (hp : p < np T) (hq : q < np T) (x : Int32) : sM_overWith M (nI p) (nI q) x = some (ts_overW T x p q (nb T)) := by
  have h := hw.1.b
  have h6 := hw.1.p.2
  unfold sM_overWith
  rw [zb_rd (by omega) (by omega), zb_rd (by omega) (by omega), (hr.2.1 p hp).1, (hr.2.1 q hq).1]
  simp only [zb_bs]
  refine zb_forB (fun k => (ts_overW T x p q k, nI k)) _ (nb T) rfl ?_ ?_ (by omega) rfl
  · intro k hk
    unfold sM_overWith_L19
    rw [hr.1.2.1, h.1, if_neg (zb_nle hk (by omega))]
    simp only [M_isHeld hr hw.1 hk, M_has, M_comesTo hw hw2 hr hk, zb_bs, nI_1, ts_overW, zf]
    by_cases h1 : ts_on T p q k
    · simp [h1]
    · by_cases h2 : hbit x k
      · simp [h1, h2]
      · simp [h1, h2]
  · unfold sM_overWith_L19
    rw [hr.1.2.1, h.1, if_pos (zb_yle (Nat.le_refl _) (by omega))]
theorem ts_overW0 (T : jm_T) (p q n : Nat) : ts_overW T 0 p q n = ts_overN T p q n := by
  unfold ts_overW ts_overN
  refine zf_congr n _ (fun k _ y => ?_)
  have h := hbit0 k
  by_cases h1 : ts_on T p q k
  · simp [h1]
  · simp [h1, h]
theorem M_overNow (hw : wfT w T) (hw2 : w < 1000000) (hr : TR T (M 0)) {p q : Nat} (hp : p < np T) (hq : q < np T) : sM_overNow M (nI p) (nI q) = some (ts_over T p q) := by
  unfold sM_overNow
  rw [M_overWith hw hw2 hr hp hq, ts_overW0]
  rfl
theorem M_comesDown (hw : wfT w T) (hw2 : w < 1000000) (hr : TR T (M 0)) {p q : Nat} (hp : p < np T) (hq : q < np T) : sM_comesDown M (nI p) (nI q) = some (if ts_over T p q < 0 then 0 else 1) := by
  unfold sM_comesDown
  rw [M_overNow hw hw2 hr hp hq]
  simp only [zb_bs]
  split <;> rfl
theorem M_price (hw : wfT w T) (hr : TR T (M 0)) {b : Nat} (hb : b < nb T) : sM_price M (nI b) = some (ts_price T b) := by
  obtain ⟨k, f, r, v, hk, hf, -, -, -, -, e1, e2, -, -⟩ := hw.book hb
  obtain ⟨g5, g6, -⟩ := hr.2.2.1 b hb
  have h10 := hw.1.b.2
  unfold sM_price ts_price
  rw [zb_rd (by omega) (by omega), zb_rd (by omega) (by omega), g5, g6, e1, e2]
  simp only [zb_bs]
  have e3 : (3 : Int32) = nI 3 := rfl
  have e31 : 3 * (nI f + 1) = nI (3 * f + 3) := by rw [nI_1, e3, pk_mul, Nat.mul_add]
  have e32 : 3 * nI f + 3 = nI (3 * f + 3) := by rw [e3, pk_mul, nI_add]
  have e33 : nI f + 2 = 2 + nI f := by rw [show (2 : Int32) = nI 2 from rfl, nI_add, nI_add, Nat.add_comm]
  have e35 : jm_max 0 (nI (3 * f + 3) - 5) = nI (3 * f + 3 - 5) := zb_maxsub (c := 5) (by omega) (by omega)
  have e36 : (if 1 ≤ nI f then some (3 * nI f - 2) else some 0) = some (nI (3 * f + 3 - 5)) := by
    rcases Nat.lt_or_ge 0 f with h | h
    · rw [if_pos (show (1 : Int32) ≤ nI f from zb_yle (a := 1) h (by omega)), e3, pk_mul, show (2 : Int32) = nI 2 from rfl, pk_sub (by omega), show 3 * f + 3 - 5 = 3 * f - 2 by omega]
    · have : f = 0 := by omega
      subst this
      rw [if_neg (by decide)]
      rfl
  rw [e31, e32, e33, e35, e36]
  have cc : k = 0 ∨ k = 1 ∨ k = 2 ∨ k = 3 ∨ k = 4 ∨ k = 5 ∨ k = 6 ∨ k = 7 := by omega
  rcases cc with rfl | rfl | rfl | rfl | rfl | rfl | rfl | rfl <;> rfl
theorem dg_at (hr : TR T (M 0)) (hc : ctT T) {a k : Nat} (ha : a < nb T) (hk : k < 4) : ((if M 0 10 a ≤ nI k then some (-1) else (jm_rd 40 (M 0 11) (4 * nI a + nI k)).bind fun v6 => some v6) : Option Int32) = some (nI (dg (M 0) a k) - 1) := by
  have h10 := hc.b.2
  obtain ⟨t1, t2, t3, -⟩ := (hr.2.2.1 a ha).2.2.2.2.2
  obtain ⟨e1, e2⟩ := zb_in_N t1 (by omega)
  unfold dg
  rcases Nat.lt_or_ge k (zb_N (M 0 10 a)) with h | h
  · obtain ⟨x1, x2⟩ := zb_in_N (t3 k h) (by omega)
    rw [if_pos h, e1, if_neg (zb_nle (by omega) (by omega)), zb_4, zb_rd (by omega) (by omega), zb_bs, x1, zb_N_nI (by omega), show (1 : Int32) = nI 1 from rfl, pk_sub (by omega), Nat.add_sub_cancel]
  · rw [if_neg (show ¬ k < zb_N (M 0 10 a) by omega), e1, if_pos (zb_yle h (by omega))]
    rfl
theorem zb_dd {x y : Nat} (hx : x < 1000) (hy : y < 1000) : ((nI x - 1 = nI y - 1) = (x = y)) ∧ ((0 ≤ nI x - 1 - (nI y - 1)) = (y ≤ x)) := by
  have h1 : (nI x - 1).toInt = (x : Int) - 1 := pk_sub_toInt (a := x) (b := 1) (by omega) (by omega)
  have h2 : (nI y - 1).toInt = (y : Int) - 1 := pk_sub_toInt (a := y) (b := 1) (by omega) (by omega)
  have h3 : (nI x - 1 - (nI y - 1)) = nI x - nI y := by
    rw [Int32.sub_sub, Int32.add_comm, Int32.sub_add_cancel]
  have h4 : (nI x - nI y).toInt = (x : Int) - y := pk_sub_toInt (by omega) (by omega)
  constructor
  · rw [← Int32.toInt_inj, h1, h2]
    exact propext (by omega)
  · rw [h3, Int32.le_iff_toInt_le, h4]
    exact propext (by
      have : (0 : Int32).toInt = 0 := rfl
      omega)
theorem M_compares (hr : TR T (M 0)) (hc : ctT T) {a b : Nat} (ha : a < nb T) (hb : b < nb T) : ∃ c, sM_compares M (nI a) (nI b) = some c ∧ (0 ≤ c) = (T 11 b ≤ T 11 a) := by
  have h10 := hc.b.2
  have ta := (hr.2.2.1 a ha).2.2.2.2.2
  have tb := (hr.2.2.1 b hb).2.2.2.2.2
  have da := ti_d ta
  have db := ti_d tb
  have e : (T 11 b ≤ T 11 a) = (tl_v (dg (M 0) b 0) (dg (M 0) b 1) (dg (M 0) b 2) (dg (M 0) b 3) ≤ tl_v (dg (M 0) a 0) (dg (M 0) a 1) (dg (M 0) a 2) (dg (M 0) a 3)) := by
    rw [ta.2.2.2, tb.2.2.2]
    have := tl_lt da
    have := tl_lt db
    exact zb_le (by omega) (by omega)
  rw [e]
  have lt : ∀ (c k : Nat), c < nb T → k < 4 → dg (M 0) c k < 1000 := by
    intro c k hc2 hk
    have d := ti_d (hr.2.2.1 c hc2).2.2.2.2.2
    obtain ⟨d1, d2, d3, d4, d5, -⟩ := d
    rcases (show k = 0 ∨ k = 1 ∨ k = 2 ∨ k = 3 by omega) with rfl | rfl | rfl | rfl <;> omega
  have stp : ∀ k, k < 4 → sM_compares_L2 M (nI a) (nI b) (nI k) = if dg (M 0) a k = dg (M 0) b k then some (.inl (nI (k + 1))) else some (.inr (.inr (nI (dg (M 0) a k) - 1 - (nI (dg (M 0) b k) - 1)))) := by
    intro k hk
    unfold sM_compares_L2
    rw [if_neg (show ¬ (4 : Int32) ≤ nI k from zb_nle (a := 4) hk (by omega)), zb_rd (by omega) (by omega), zb_bs, dg_at hr hc ha hk, zb_bs, zb_rd (by omega) (by omega), zb_bs, dg_at hr hc hb hk, zb_bs, nI_1]
    have h1 := (zb_dd (lt a k ha hk) (lt b k hb hk)).1
    by_cases h : dg (M 0) a k = dg (M 0) b k
    · rw [if_pos (by rw [h1]; exact h), if_pos h]
    · rw [if_neg (by rw [h1]; exact h), if_neg h]
  obtain ⟨r, hf⟩ := zb_ff_ex (fun k => ¬ dg (M 0) a k = dg (M 0) b k) 4
  unfold sM_compares
  obtain ⟨a1, a2, a3, a4, a5, -⟩ := da
  obtain ⟨b1, b2, b3, b4, b5, -⟩ := db
  cases r with
  | none =>
    refine ⟨0, ?_, ?_⟩
    · refine zb_forB (fun k => nI k) (.inl ()) 4 rfl (fun k hk => ?_) ?_ (by omega) rfl
      · rw [stp k hk, if_pos (Decidable.byContradiction (fun q => hf k hk q))]
      · unfold sM_compares_L2
        rw [if_pos (show (4 : Int32) ≤ nI 4 from zb_yle (Nat.le_refl 4) (by omega))]
    · have q : ∀ k, k < 4 → dg (M 0) a k = dg (M 0) b k := fun k hk => Decidable.byContradiction (fun q => hf k hk q)
      rw [q 0 (by omega), q 1 (by omega), q 2 (by omega), q 3 (by omega)]
      simp
  | some k =>
    obtain ⟨hk, hne, hlo⟩ := hf
    refine ⟨nI (dg (M 0) a k) - 1 - (nI (dg (M 0) b k) - 1), ?_, ?_⟩
    · refine zb_forB (fun k => nI k) (.inr (nI (dg (M 0) a k) - 1 - (nI (dg (M 0) b k) - 1))) k rfl (fun j hj => ?_) ?_ (by omega) rfl
      · rw [stp j (by omega), if_pos (Decidable.byContradiction (fun q => hlo j hj q))]
      · rw [stp k hk, if_neg hne]
    · rw [(zb_dd (lt a k ha hk) (lt b k hb hk)).2]
      have q : ∀ j, j < k → dg (M 0) a j = dg (M 0) b j := fun j hj => Decidable.byContradiction (fun q => hlo j hj q)
      unfold tl_v
      apply propext
      rcases (show k = 0 ∨ k = 1 ∨ k = 2 ∨ k = 3 by omega) with rfl | rfl | rfl | rfl
      · omega
      · have := q 0 (by omega); omega
      · have := q 0 (by omega); have := q 1 (by omega); omega
      · have := q 0 (by omega); have := q 1 (by omega); have := q 2 (by omega); omega
end
