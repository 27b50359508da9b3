/-! numbers of a pan: how large; the reference's steps -/
theorem zq_0_0 : (nI 0 = 0) = True := eq_true (by decide)
theorem zq_0_1 : (nI 0 = 1) = False := eq_false (by decide)
theorem zq_0_2 : (nI 0 = 2) = False := eq_false (by decide)
theorem zq_0_3 : (nI 0 = 3) = False := eq_false (by decide)
theorem zq_0_4 : (nI 0 = 4) = False := eq_false (by decide)
theorem zq_0_5 : (nI 0 = 5) = False := eq_false (by decide)
theorem zq_0_6 : (nI 0 = 6) = False := eq_false (by decide)
theorem zq_0_7 : (nI 0 = 7) = False := eq_false (by decide)
theorem zq_1_0 : (nI 1 = 0) = False := eq_false (by decide)
theorem zq_1_1 : (nI 1 = 1) = True := eq_true (by decide)
theorem zq_1_2 : (nI 1 = 2) = False := eq_false (by decide)
theorem zq_1_3 : (nI 1 = 3) = False := eq_false (by decide)
theorem zq_1_4 : (nI 1 = 4) = False := eq_false (by decide)
theorem zq_1_5 : (nI 1 = 5) = False := eq_false (by decide)
theorem zq_1_6 : (nI 1 = 6) = False := eq_false (by decide)
theorem zq_1_7 : (nI 1 = 7) = False := eq_false (by decide)
theorem zq_2_0 : (nI 2 = 0) = False := eq_false (by decide)
theorem zq_2_1 : (nI 2 = 1) = False := eq_false (by decide)
theorem zq_2_2 : (nI 2 = 2) = True := eq_true (by decide)
theorem zq_2_3 : (nI 2 = 3) = False := eq_false (by decide)
theorem zq_2_4 : (nI 2 = 4) = False := eq_false (by decide)
theorem zq_2_5 : (nI 2 = 5) = False := eq_false (by decide)
theorem zq_2_6 : (nI 2 = 6) = False := eq_false (by decide)
theorem zq_2_7 : (nI 2 = 7) = False := eq_false (by decide)
theorem zq_3_0 : (nI 3 = 0) = False := eq_false (by decide)
theorem zq_3_1 : (nI 3 = 1) = False := eq_false (by decide)
theorem zq_3_2 : (nI 3 = 2) = False := eq_false (by decide)
theorem zq_3_3 : (nI 3 = 3) = True := eq_true (by decide)
theorem zq_3_4 : (nI 3 = 4) = False := eq_false (by decide)
theorem zq_3_5 : (nI 3 = 5) = False := eq_false (by decide)
theorem zq_3_6 : (nI 3 = 6) = False := eq_false (by decide)
theorem zq_3_7 : (nI 3 = 7) = False := eq_false (by decide)
theorem zq_4_0 : (nI 4 = 0) = False := eq_false (by decide)
theorem zq_4_1 : (nI 4 = 1) = False := eq_false (by decide)
theorem zq_4_2 : (nI 4 = 2) = False := eq_false (by decide)
theorem zq_4_3 : (nI 4 = 3) = False := eq_false (by decide)
theorem zq_4_4 : (nI 4 = 4) = True := eq_true (by decide)
theorem zq_4_5 : (nI 4 = 5) = False := eq_false (by decide)
theorem zq_4_6 : (nI 4 = 6) = False := eq_false (by decide)
theorem zq_4_7 : (nI 4 = 7) = False := eq_false (by decide)
theorem zq_5_0 : (nI 5 = 0) = False := eq_false (by decide)
theorem zq_5_1 : (nI 5 = 1) = False := eq_false (by decide)
theorem zq_5_2 : (nI 5 = 2) = False := eq_false (by decide)
theorem zq_5_3 : (nI 5 = 3) = False := eq_false (by decide)
theorem zq_5_4 : (nI 5 = 4) = False := eq_false (by decide)
theorem zq_5_5 : (nI 5 = 5) = True := eq_true (by decide)
theorem zq_5_6 : (nI 5 = 6) = False := eq_false (by decide)
theorem zq_5_7 : (nI 5 = 7) = False := eq_false (by decide)
theorem zq_6_0 : (nI 6 = 0) = False := eq_false (by decide)
theorem zq_6_1 : (nI 6 = 1) = False := eq_false (by decide)
theorem zq_6_2 : (nI 6 = 2) = False := eq_false (by decide)
theorem zq_6_3 : (nI 6 = 3) = False := eq_false (by decide)
theorem zq_6_4 : (nI 6 = 4) = False := eq_false (by decide)
theorem zq_6_5 : (nI 6 = 5) = False := eq_false (by decide)
theorem zq_6_6 : (nI 6 = 6) = True := eq_true (by decide)
theorem zq_6_7 : (nI 6 = 7) = False := eq_false (by decide)
theorem zq_7_0 : (nI 7 = 0) = False := eq_false (by decide)
theorem zq_7_1 : (nI 7 = 1) = False := eq_false (by decide)
theorem zq_7_2 : (nI 7 = 2) = False := eq_false (by decide)
theorem zq_7_3 : (nI 7 = 3) = False := eq_false (by decide)
theorem zq_7_4 : (nI 7 = 4) = False := eq_false (by decide)
theorem zq_7_5 : (nI 7 = 5) = False := eq_false (by decide)
theorem zq_7_6 : (nI 7 = 6) = False := eq_false (by decide)
theorem zq_7_7 : (nI 7 = 7) = True := eq_true (by decide)
theorem zb_in_mono {x : Int32} {a b : Nat} (h : zb_in x a) (hab : a ≤ b) : zb_in x b := by
  obtain ⟨n, h1, h2⟩ := h
  exact ⟨n, by omega, h2⟩
theorem zb_in_add {x y : Int32} {a b : Nat} (h : zb_in x a) (h' : zb_in y b) : zb_in (x + y) (a + b) := by
  obtain ⟨n, h1, rfl⟩ := h
  obtain ⟨k, h2, rfl⟩ := h'
  exact ⟨n + k, by omega, by rw [nI_add]⟩
theorem zb_in_c {k : Nat} {x : Int32} (h : x = nI k) : zb_in x k := ⟨k, Nat.le_refl _, h⟩
theorem zb_maxsub {a c : Nat} (ha : a < 1000000) (hc : c < 1000000) : jm_max 0 (nI a - nI c) = nI (a - c) := by
  unfold jm_max
  rcases Nat.lt_or_ge c a with h | h
  · rw [pk_sub (by omega), if_pos (by rw [← nI_0, zb_lt (by omega) (by omega)]; omega)]
  · rw [show a - c = 0 by omega, nI_0]
    rcases Nat.lt_or_ge a c with h2 | h2
    · have h3 := pk_sneg (a := a) (b := c) (by omega) h2
      have h4 : ¬ (0 : Int32) < nI a - nI c := by
        rw [Int32.lt_iff_toInt_lt] at h3 ⊢
        omega
      rw [if_neg h4]
    · have : a = c := by omega
      subst this
      rw [pk_sub (Nat.le_refl _), Nat.sub_self, nI_0]
      rfl
theorem zb_minI {a c : Nat} (ha : a < 1000000) (hc : c < 1000000) : jm_min (nI a) (nI c) = nI (min a c) := by
  unfold jm_min
  rcases Nat.lt_or_ge c a with h | h
  · rw [if_pos (by rw [zb_lt hc ha]; exact h), Nat.min_eq_right (by omega)]
  · rw [if_neg (by rw [zb_lt hc ha]; omega), Nat.min_eq_left h]
theorem zb_mod2 {w : Nat} (hw : w < 1000000) : nI w - nI w / 2 * 2 = nI (w % 2) := pk_rem (a := w) (d := 2) (by omega) (by omega) (by omega)
section
variable {T : jm_T} {M : jm_M} {w : Nat}
theorem wfT.step (hw : wfT w T) {i : Nat} (hi : i < ns T) : ∃ c k, c ≤ 7 ∧ k ≤ 99 ∧ T 14 i = nI c ∧ T 15 i = nI k := by
  obtain ⟨⟨c, h1, e1⟩, ⟨k, h2, e2⟩⟩ := hw.2.2.2.2.1 i hi
  exact ⟨c, k, h1, h2, e1, e2⟩
theorem wfT.book (hw : wfT w T) {b : Nat} (hb : b < nb T) : ∃ k f r v, k ≤ 7 ∧ f ≤ 9 ∧ r < 64 ∧ r < 2 ^ np T ∧ v < 531441 ∧ ¬ v / 27 ^ 3 % 27 = 0 ∧ T 6 b = nI k ∧ T 7 b = nI f ∧ T 10 b = nI r ∧ T 11 b = nI v := by
  obtain ⟨⟨k, h1, e1⟩, ⟨f, h2, e2⟩, -, -, -, d0, d1, d2, d3, hd, ev⟩ := hw.2.2.2.1 b hb
  obtain ⟨r, h3, h4, e3⟩ := hw.rd hb
  exact ⟨k, f, r, _, h1, h2, h3, h4, tl_lt hd, by obtain ⟨a1, a2, a3, a4, a5, -⟩ := hd; unfold tl_v; rw [show 27 ^ 3 = 19683 from rfl]; omega, e1, e2, e3, ev⟩
theorem ts_len_in {v : Nat} (hv : v < 1000000) (h0 : ¬ v / 27 ^ 3 % 27 = 0) : zb_in (ts_len (nI v)) 4 := by
  have key : ∀ e, sI_lengthOf (nI v) = some e → zb_in e 4 := by
    intro e he
    by_cases h3 : v / 27 ^ 0 % 27 = 0
    · by_cases h2 : v / 27 ^ 1 % 27 = 0
      · by_cases h1 : v / 27 ^ 2 % 27 = 0
        · rw [len_gen hv (z := 3) (by omega) (fun k hk => by rcases (show k = 0 ∨ k = 1 ∨ k = 2 by omega) with rfl | rfl | rfl <;> assumption) h0] at he
          cases he
          exact ⟨_, by omega, rfl⟩
        · rw [len_gen hv (z := 2) (by omega) (fun k hk => by rcases (show k = 0 ∨ k = 1 by omega) with rfl | rfl <;> assumption) h1] at he
          cases he
          exact ⟨_, by omega, rfl⟩
      · rw [len_gen hv (z := 1) (by omega) (fun k hk => by rcases (show k = 0 by omega) with rfl; assumption) h2] at he
        cases he
        exact ⟨_, by omega, rfl⟩
    · rw [len_gen hv (z := 0) (by omega) (fun k hk => by omega) h3] at he
      cases he
      exact ⟨_, by omega, rfl⟩
  exact key _ (I_lengthOf _)
theorem ts_step_in (hw : wfT w T) (hw2 : w < 1000000) {i : Nat} (hi : i < ns T) {v m : Int32} {a : Nat} (hv : zb_in v a) (h1 : 99 ≤ a) (h2 : a ≤ 20000) : zb_in (ts_step T m i v) (2 * a) := by
  obtain ⟨c, k, hc, hk, e1, e2⟩ := hw.step hi
  obtain ⟨x, hx, rfl⟩ := hv
  obtain ⟨ew, hwk⟩ := hw.w hw2
  have cc : c = 0 ∨ c = 1 ∨ c = 2 ∨ c = 3 ∨ c = 4 ∨ c = 5 ∨ c = 6 ∨ c = 7 := by omega
  have em : T 0 11 - T 0 11 / 2 * 2 = nI (nw T % 2) := by rw [ew, zb_mod2 (by omega)]
  unfold ts_step
  rw [e1, e2, em]
  rcases cc with rfl | rfl | rfl | rfl | rfl | rfl | rfl | rfl
  · simp only [zq_0_0, zq_0_1, zq_0_2, zq_0_3, zq_0_4, zq_0_5, zq_0_6, zq_0_7, if_true, if_false]
    rw [nI_add]
    exact ⟨_, by omega, rfl⟩
  · simp only [zq_1_0, zq_1_1, zq_1_2, zq_1_3, zq_1_4, zq_1_5, zq_1_6, zq_1_7, if_true, if_false]
    rw [zb_maxsub (by omega) (by omega)]
    exact ⟨_, by omega, rfl⟩
  · simp only [zq_2_0, zq_2_1, zq_2_2, zq_2_3, zq_2_4, zq_2_5, zq_2_6, zq_2_7, if_true, if_false]
    rw [zb_minI (by omega) (by omega)]
    exact ⟨_, by omega, rfl⟩
  · simp only [zq_3_0, zq_3_1, zq_3_2, zq_3_3, zq_3_4, zq_3_5, zq_3_6, zq_3_7, if_true, if_false]
    split
    · exact ⟨_, by omega, rfl⟩
    · exact ⟨0, by omega, rfl⟩
  · simp only [zq_4_0, zq_4_1, zq_4_2, zq_4_3, zq_4_4, zq_4_5, zq_4_6, zq_4_7, if_true, if_false]
    split
    · rw [show (2 : Int32) = nI 2 from rfl, pk_mul]; exact ⟨_, by omega, rfl⟩
    · exact ⟨_, by omega, rfl⟩
  · simp only [zq_5_0, zq_5_1, zq_5_2, zq_5_3, zq_5_4, zq_5_5, zq_5_6, zq_5_7, if_true, if_false]
    split
    · exact ⟨0, by omega, rfl⟩
    · exact ⟨_, by omega, rfl⟩
  · simp only [zq_6_0, zq_6_1, zq_6_2, zq_6_3, zq_6_4, zq_6_5, zq_6_6, zq_6_7, if_true, if_false]
    rw [show (2 : Int32) = nI 2 from rfl, pk_div (by omega) (by omega) (by omega)]
    exact ⟨_, by omega, rfl⟩
  · simp only [zq_7_0, zq_7_1, zq_7_2, zq_7_3, zq_7_4, zq_7_5, zq_7_6, zq_7_7, if_true, if_false]
    rw [nI_add]
    exact ⟨_, by omega, rfl⟩
theorem M_byStep (hw : wfT w T) (hw2 : w < 1000000) (hr : TR T (M 0)) {i : Nat} (hi : i < ns T) {v m : Int32} {a : Nat} (hv : zb_in v a) (h2 : a ≤ 20000) : sM_byStep M (nI i) v m = some (ts_step T m i v) := by
  obtain ⟨c, k, hc, hk, e1, e2⟩ := hw.step hi
  obtain ⟨x, hx, rfl⟩ := hv
  obtain ⟨ew, hwk⟩ := hw.w hw2
  obtain ⟨g1, g2⟩ := hr.2.2.2 i hi
  have h6 := hw.1.s.2
  have cc : c = 0 ∨ c = 1 ∨ c = 2 ∨ c = 3 ∨ c = 4 ∨ c = 5 ∨ c = 6 ∨ c = 7 := by omega
  have em : T 0 11 - T 0 11 / 2 * 2 = nI (nw T % 2) := by rw [ew, zb_mod2 (by omega)]
  unfold sM_byStep ts_step
  rw [zb_rd (by omega) (by omega), zb_rd (by omega) (by omega), g1, g2, e1, e2]
  simp only [zb_bs]
  rw [em]
  rcases cc with rfl | rfl | rfl | rfl | rfl | rfl | rfl | rfl
  · simp only [zq_0_0, zq_0_1, zq_0_2, zq_0_3, zq_0_4, zq_0_5, zq_0_6, zq_0_7, if_true, if_false]
  · simp only [zq_1_0, zq_1_1, zq_1_2, zq_1_3, zq_1_4, zq_1_5, zq_1_6, zq_1_7, if_true, if_false]
    rw [zb_maxsub (by omega) (by omega)]
    rcases Nat.lt_or_ge k x with h | h
    · rw [if_neg (zb_nle h (by omega)), pk_sub (by omega)]
    · rw [if_pos (zb_yle h (by omega)), show x - k = 0 by omega, nI_0]
  · simp only [zq_2_0, zq_2_1, zq_2_2, zq_2_3, zq_2_4, zq_2_5, zq_2_6, zq_2_7, if_true, if_false]
    rw [zb_minI (by omega) (by omega)]
    rcases Nat.lt_or_ge x k with h | h
    · rw [if_neg (zb_nle h (by omega)), Nat.min_eq_left (by omega)]
    · rw [if_pos (zb_yle h (by omega)), Nat.min_eq_right h]
  · simp only [zq_3_0, zq_3_1, zq_3_2, zq_3_3, zq_3_4, zq_3_5, zq_3_6, zq_3_7, if_true, if_false]
    split <;> rfl
  · simp only [zq_4_0, zq_4_1, zq_4_2, zq_4_3, zq_4_4, zq_4_5, zq_4_6, zq_4_7, if_true, if_false]
    split <;> rfl
  · simp only [zq_5_0, zq_5_1, zq_5_2, zq_5_3, zq_5_4, zq_5_5, zq_5_6, zq_5_7, if_true, if_false]
    split <;> rfl
  · simp only [zq_6_0, zq_6_1, zq_6_2, zq_6_3, zq_6_4, zq_6_5, zq_6_6, zq_6_7, if_true, if_false]
    unfold jm_dv
    rw [if_neg (by decide)]
    rfl
  · simp only [zq_7_0, zq_7_1, zq_7_2, zq_7_3, zq_7_4, zq_7_5, zq_7_6, zq_7_7, if_true, if_false]
    unfold jm_rm
    rw [if_neg (by decide), hr.1.2.2.1, em, zb_bs]
    rcases (show nw T % 2 = 0 ∨ nw T % 2 = 1 by omega) with h | h
    · rw [h, if_neg (by decide), nI_add]; rfl
    · rw [h, if_pos (by decide), nI_1, nI_add]
theorem ts_weighs_in (hw : wfT w T) {b : Nat} (hb : b < nb T) : zb_in (ts_weighs T b) 99 := by
  obtain ⟨k, f, r, v, hk, hf, hr, -, hv, hv0, e1, e2, e3, e4⟩ := hw.book hb
  have hc : ∃ c, c ≤ 6 ∧ ts_bc (nI r) = nI c := ⟨_, ts_bc_in6 r hr, (ts_bc_in r (by omega)).1⟩
  obtain ⟨c, hc, ec⟩ := hc
  obtain ⟨l, hl, el⟩ := ts_len_in (v := v) (by omega) hv0
  have hn : zb_in (ts_nov T b) 15 := by
    unfold ts_nov
    rw [e2, e3, ec]
    split
    · exact ⟨0, by omega, rfl⟩
    · rw [nI_add]; exact ⟨_, by omega, rfl⟩
  have hs : zb_in (ts_ser T b) 15 := by
    unfold ts_ser
    rw [e2, e3, ec]
    split
    · rw [show (5 : Int32) = nI 5 from rfl, nI_add]; exact ⟨_, by omega, rfl⟩
    · exact hn
  have cc : k = 0 ∨ k = 1 ∨ k = 2 ∨ k = 3 ∨ k = 4 ∨ k = 5 ∨ k = 6 ∨ k = 7 := by omega
  unfold ts_weighs
  rw [e1, e2, e3, e4, ec, el]
  obtain ⟨n, hn1, en⟩ := hn
  obtain ⟨s, hs1, es⟩ := hs
  rw [en, es]
  rcases cc with rfl | rfl | rfl | rfl | rfl | rfl | rfl | rfl
  · simp only [zq_0_0, zq_0_1, zq_0_2, zq_0_3, zq_0_4, zq_0_5, zq_0_6, zq_0_7, if_true, if_false]
    exact ⟨_, by omega, rfl⟩
  · simp only [zq_1_0, zq_1_1, zq_1_2, zq_1_3, zq_1_4, zq_1_5, zq_1_6, zq_1_7, if_true, if_false]
    rw [show (2 : Int32) = nI 2 from rfl, nI_add]
    exact ⟨_, by omega, rfl⟩
  · simp only [zq_2_0, zq_2_1, zq_2_2, zq_2_3, zq_2_4, zq_2_5, zq_2_6, zq_2_7, if_true, if_false]
    rw [show (2 : Int32) = nI 2 from rfl, pk_mul]
    exact ⟨_, by omega, rfl⟩
  · simp only [zq_3_0, zq_3_1, zq_3_2, zq_3_3, zq_3_4, zq_3_5, zq_3_6, zq_3_7, if_true, if_false]
    exact ⟨_, by omega, rfl⟩
  · simp only [zq_4_0, zq_4_1, zq_4_2, zq_4_3, zq_4_4, zq_4_5, zq_4_6, zq_4_7, if_true, if_false]
    rw [show (2 : Int32) = nI 2 from rfl, nI_add, nI_add]
    exact ⟨_, by omega, rfl⟩
  · simp only [zq_5_0, zq_5_1, zq_5_2, zq_5_3, zq_5_4, zq_5_5, zq_5_6, zq_5_7, if_true, if_false]
    rw [show (2 : Int32) = nI 2 from rfl, pk_mul, pk_div (by omega) (by omega) (by omega), nI_add]
    exact ⟨_, by omega, rfl⟩
  · simp only [zq_6_0, zq_6_1, zq_6_2, zq_6_3, zq_6_4, zq_6_5, zq_6_6, zq_6_7, if_true, if_false]
    split
    · rw [show (3 : Int32) = nI 3 from rfl, nI_add]; exact ⟨_, by omega, rfl⟩
    · rw [show (0 : Int32) = nI 0 from rfl, nI_add]; exact ⟨_, by omega, rfl⟩
  · simp only [zq_7_0, zq_7_1, zq_7_2, zq_7_3, zq_7_4, zq_7_5, zq_7_6, zq_7_7, if_true, if_false]
    rw [show (2 : Int32) = nI 2 from rfl, nI_add, nI_add, zb_max]
    split
    · exact ⟨_, by omega, rfl⟩
    · exact ⟨10, by omega, rfl⟩
theorem ts_comesk_in (hw : wfT w T) (hw2 : w < 1000000) {b : Nat} (hb : b < nb T) (m : Int32) : ∀ n, n ≤ ns T → zb_in (zf (ts_step T m) n (ts_weighs T b)) (99 * 2 ^ n) := by
  intro n
  induction n with
  | zero => intro _; exact zb_in_mono (ts_weighs_in hw hb) (by omega)
  | succ n ih =>
    intro hn
    have h6 := hw.1.s.2
    have h1 : 2 ^ n ≤ 2 ^ 5 := Nat.pow_le_pow_right (by omega) (by omega)
    have h2 : 1 ≤ 2 ^ n := Nat.one_le_two_pow
    have h := ts_step_in hw hw2 (i := n) (by omega) (m := m) (ih (by omega)) (by omega) (by omega)
    rw [zf]
    exact zb_in_mono h (by rw [Nat.pow_succ]; omega)
theorem ts_comes_in (hw : wfT w T) (hw2 : w < 1000000) {b : Nat} (hb : b < nb T) (p q : Nat) : zb_in (ts_comes T p q b) 6336 := by
  have h := ts_comesk_in hw hw2 hb (ts_rd T p b + ts_rd T q b) (ns T) (Nat.le_refl _)
  have h6 := hw.1.s.2
  have h1 : 2 ^ ns T ≤ 2 ^ 6 := Nat.pow_le_pow_right (by omega) h6
  exact zb_in_mono h (by omega)
theorem M_comesTo (hw : wfT w T) (hw2 : w < 1000000) (hr : TR T (M 0)) {p q b : Nat} (hb : b < nb T) : sM_comesTo M (nI b) (nI p) (nI q) = some (ts_comes T p q b) := by
  have h := hw.1.s
  have h10 := hw.1.b.2
  obtain ⟨g5, g6, g7, g8, g9, gt⟩ := hr.2.2.1 b hb
  unfold sM_comesTo ts_comes
  rw [zb_rd (by omega) (by omega), g9]
  simp only [zb_bs, M_weighs hw hr hb]
  refine zb_forB (fun k => (zf (ts_step T (ts_rd T p b + ts_rd T q b)) k (ts_weighs T b), nI k)) _ (ns T) rfl ?_ ?_ (by omega) rfl
  · intro k hk
    unfold sM_comesTo_L33
    have h1 : 2 ^ k ≤ 2 ^ 6 := Nat.pow_le_pow_right (by omega) (by omega)
    rw [hr.1.2.2.2, h.1, if_neg (zb_nle hk (by omega))]
    have e := M_byStep hw hw2 hr hk (m := ts_rd T p b + ts_rd T q b) (ts_comesk_in hw hw2 hb (ts_rd T p b + ts_rd T q b) k (by omega)) (by omega)
    unfold ts_rd at e ⊢
    simp only [e, zb_bs, nI_1, zf]
  · unfold sM_comesTo_L33
    rw [hr.1.2.2.2, h.1, if_pos (zb_yle (Nat.le_refl _) (by omega))]
theorem M_isHeld (hr : TR T (M 0)) {p q b : Nat} (hc : ctT T) (hb : b < nb T) : sM_isHeld M (nI b) (nI p) (nI q) = some (if ts_on T p q b then 1 else 0) := by
  have h10 := hc.b.2
  obtain ⟨g5, g6, g7, g8, g9, gt⟩ := hr.2.2.1 b hb
  unfold sM_isHeld ts_on
  rw [zb_rd (by omega) (by omega), g8]
  simp only [zb_bs]
  by_cases h1 : T 9 b = nI p
  · simp [h1]
  · by_cases h2 : T 9 b = nI q
    · simp [h2]
    · simp [h1, h2]
end
