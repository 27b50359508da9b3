/-! the reference's reads, by what the town answers -/
theorem zb_c0 : nI 0 = 0 := rfl
theorem zb_c1 : nI 1 = 1 := rfl
theorem zb_c2 : nI 2 = 2 := rfl
theorem zb_c3 : nI 3 = 3 := rfl
theorem zb_c4 : nI 4 = 4 := rfl
theorem zb_c5 : nI 5 = 5 := rfl
theorem zb_c6 : nI 6 = 6 := rfl
theorem zb_c7 : nI 7 = 7 := rfl
theorem zb_c8 : nI 8 = 8 := rfl
theorem zb_c9 : nI 9 = 9 := rfl
theorem zb_c10 : nI 10 = 10 := rfl
theorem zb_pred {x : Int32} {n : Nat} (hn : n < 1000000) : (nI n - 1 < x) = (nI n ≤ x) := by
  have h1 : (nI n - 1).toInt = (n : Int) - 1 := by
    exact pk_sub_toInt (a := n) (b := 1) (by omega) (by omega)
  have h2 : (nI n).toInt = (n : Int) := nI_toInt (by omega)
  rw [Int32.lt_iff_toInt_lt, Int32.le_iff_toInt_le, h1, h2]
  exact propext (by omega)
theorem M_isIn0 {x : Int32} {n : Nat} (hn : n < 1000000) : sM_isIn x 0 (nI n - 1) = some (if x < 0 ∨ nI n ≤ x then 0 else 1) := by
  unfold sM_isIn
  by_cases h1 : x < 0
  · simp [h1]
  · by_cases h2 : nI n ≤ x
    · have h3 : nI n - 1 < x := by rw [zb_pred hn]; exact h2
      simp [h1, h2, h3]
    · have h3 : ¬ nI n - 1 < x := by rw [zb_pred hn]; exact h2
      simp [h1, h2, h3]
theorem zb_max {a x : Int32} : jm_max a x = if a ≤ x then x else a := by
  unfold jm_max
  by_cases h : a ≤ x
  · by_cases h2 : a < x
    · rw [if_pos h, if_pos h2]
    · have e : a = x := by
        rw [← Int32.toInt_inj]
        rw [Int32.le_iff_toInt_le] at h
        rw [Int32.lt_iff_toInt_lt] at h2
        omega
      rw [e]
      simp
  · have h2 : ¬ a < x := by
      rw [Int32.le_iff_toInt_le] at h
      rw [Int32.lt_iff_toInt_lt]
      omega
    rw [if_neg h, if_neg h2]
theorem zb_bz (c : Prop) {inst : Decidable c} : jm_bz (@ite _ c inst 0 1) = some (@ite _ c inst 0 1) := by
  unfold jm_bz
  by_cases h : c <;> simp [h]
theorem zb_rng {k n : Nat} (hk : k < n) (hn : n < 1000000) : ¬ (nI k < 0 ∨ nI n ≤ nI k) := by
  rw [zb_le hn (by omega)]
  exact fun h => h.elim (zb_nd (by omega)) (fun h => by omega)
section
variable {T : jm_T} {M : jm_M}
theorem M_isPerson_x (hc : ctT T) (hr : TR T (M 0)) (x : Int32) : sM_isPerson M x = some (if x < 0 ∨ nI (np T) ≤ x then 0 else 1) := by
  unfold sM_isPerson
  have := hc.p
  rw [hr.1.1, this.1, M_isIn0 (by omega)]
  simp only [zb_bs, zb_bz]
theorem M_isBook_x (hc : ctT T) (hr : TR T (M 0)) (x : Int32) : sM_isBook M x = some (if x < 0 ∨ nI (nb T) ≤ x then 0 else 1) := by
  unfold sM_isBook
  have := hc.b
  rw [hr.1.2.1, this.1, M_isIn0 (by omega)]
  simp only [zb_bs, zb_bz]
theorem M_isPlace_x (hc : ctT T) (hr : TR T (M 0)) (x : Int32) : sM_isPlace M x = some (if x = 9 then 1 else if x < 0 ∨ nI (np T) ≤ x then 0 else 1) := by
  unfold sM_isPlace
  rw [M_isPerson_x hc hr]
  simp only [zb_bs]
  by_cases h : x = 9
  · simp [h]
  · by_cases h2 : x < 0 ∨ nI (np T) ≤ x <;> simp [h, h2]
theorem M_asNovel {w : Nat} (hw : wfT w T) (hr : TR T (M 0)) {b : Nat} (hb : b < nb T) : sM_asNovel M (nI b) = some (ts_nov T b) := by
  have h10 := hw.1.b
  obtain ⟨r, h1, -, e⟩ := hw.rd hb
  obtain ⟨g5, g6, g7, g8, g9, -⟩ := hr.2.2.1 b hb
  unfold sM_asNovel ts_nov
  rw [zb_rd (by omega) (by omega), zb_rd (by omega) (by omega), g9, g6, e]
  simp only [zb_bs, M_bits (show r < 1024 by omega)]
  split <;> rfl
theorem len_gen {v z : Nat} (hv : v < 1000000) (hz : z ≤ 3) (h1 : ∀ k, k < z → v / 27 ^ k % 27 = 0) (h2 : ¬ v / 27 ^ z % 27 = 0) : sI_lengthOf (nI v) = some (nI (4 - z)) := by
  have hq : ∀ k, v / 27 ^ k < 1000000 := fun k => Nat.lt_of_le_of_lt (Nat.div_le_self _ _) hv
  unfold sI_lengthOf
  refine zb_forB (fun k => (nI (4 - k), nI (v / 27 ^ k))) (nI (4 - z)) z ?_ ?_ ?_ (by omega) rfl
  · simp only [Nat.pow_zero, Nat.div_one]
    rfl
  · intro k hk
    unfold sI_lengthOf_L4
    rw [if_neg (show ¬ nI (4 - k) ≤ 0 from zb_nle (b := 0) (by omega) (by omega))]
    simp only [show (27 : Int32) = nI 27 from rfl, zb_rm (hq k) (show 0 < 27 by omega) (show 27 < 1000000 by omega), zb_dv (hq k) (show 0 < 27 by omega) (show 27 < 1000000 by omega), zb_bs, h1 k hk]
    rw [if_pos (show nI 0 = 0 from rfl), Nat.div_div_eq_div_mul, ← Nat.pow_succ]
    rw [show 4 - k = (4 - (k + 1)) + 1 by omega, pk_m1]
  · unfold sI_lengthOf_L4
    rw [if_neg (show ¬ nI (4 - z) ≤ 0 from zb_nle (b := 0) (by omega) (by omega))]
    simp only [show (27 : Int32) = nI 27 from rfl, zb_rm (hq z) (show 0 < 27 by omega) (show 27 < 1000000 by omega), zb_bs]
    rw [if_neg (by rw [← nI_0, zb_eq (by omega) (by omega)]; exact h2)]
theorem ts_len_ti {g : jm_T} {b : Nat} (h : ti T g b) : ts_len (T 11 b) = g 10 b := by
  have hd := ti_d h
  have hv := tl_lt hd
  obtain ⟨h1, h2, h3, h4⟩ := h
  obtain ⟨e1, e2⟩ := zb_in_N h1 (by omega)
  have hk : ∀ k, k < 4 → (k < zb_N (g 10 b) ↔ ¬ dg g b k = 0) := by
    intro k _
    unfold dg
    by_cases q : k < zb_N (g 10 b)
    · rw [if_pos q]; omega
    · rw [if_neg q]; omega
  have k0 := hk 0 (by omega); have k1 := hk 1 (by omega); have k2 := hk 2 (by omega); have k3 := hk 3 (by omega)
  have key : sI_lengthOf (T 11 b) = some (nI (4 - (4 - zb_N (g 10 b)))) := by
    rw [h4]
    generalize dg g b 0 = d0 at *
    generalize dg g b 1 = d1 at *
    generalize dg g b 2 = d2 at *
    generalize dg g b 3 = d3 at *
    obtain ⟨a1, a2, a3, a4, a5, -⟩ := hd
    have hl : zb_N (g 10 b) = 1 ∨ zb_N (g 10 b) = 2 ∨ zb_N (g 10 b) = 3 ∨ zb_N (g 10 b) = 4 := by omega
    have ev : tl_v d0 d1 d2 d3 = ((d0 * 27 + d1) * 27 + d2) * 27 + d3 := rfl
    refine len_gen (by omega) (by omega) (fun k hk' => ?_) ?_
    · have kk : k = 0 ∨ k = 1 ∨ k = 2 := by omega
      rw [ev]
      rcases kk with rfl | rfl | rfl
      all_goals
        simp only [Nat.pow_zero, Nat.pow_one, show 27 ^ 2 = 729 from rfl]
        omega
    · rw [ev]
      rcases hl with l | l | l | l
      all_goals
        rw [l]
        simp only [show 4 - 1 = 3 from rfl, show 4 - 2 = 2 from rfl, show 4 - 3 = 1 from rfl, show 4 - 4 = 0 from rfl, Nat.pow_zero, Nat.pow_one, show 27 ^ 2 = 729 from rfl, show 27 ^ 3 = 19683 from rfl]
        omega
  rw [ts_len, key, Option.getD_some, show 4 - (4 - zb_N (g 10 b)) = zb_N (g 10 b) by omega, ← e1]
theorem M_weighs {w : Nat} (hw : wfT w T) (hr : TR T (M 0)) {b : Nat} (hb : b < nb T) : sM_weighs M (nI b) = some (ts_weighs T b) := by
  have h10 := hw.1.b
  obtain ⟨r, h1, -, e⟩ := hw.rd hb
  obtain ⟨g5, g6, g7, g8, g9, gt⟩ := hr.2.2.1 b hb
  obtain ⟨k6, f7, -⟩ := hw.2.2.2.1 b hb
  obtain ⟨k, hk, ek⟩ := k6
  obtain ⟨f, hf, ef⟩ := f7
  unfold sM_weighs ts_weighs
  simp only [zb_rd (show b < 10 by omega) (show 10 < 2000 by omega), zb_bs, g5, g6, g9, e, M_bits (show r < 1024 by omega), M_asNovel hw hr hb, ts_len_ti gt, hr.1.2.2.1]
  have e2 : 2 * T 7 b / 2 = T 7 b := by
    rw [ef, show (2 : Int32) = nI 2 from rfl, pk_mul, pk_div (by omega) (by omega) (by omega), Nat.mul_div_cancel_left f (by omega)]
  unfold jm_rm
  simp only [show ¬ (2 : Int32) = 0 by decide, if_false, zb_bs, ts_ser, ts_nov, e, e2, ek]
  have kk : k = 0 ∨ k = 1 ∨ k = 2 ∨ k = 3 ∨ k = 4 ∨ k = 5 ∨ k = 6 ∨ k = 7 := by omega
  rcases kk with rfl | rfl | rfl | rfl | rfl | rfl | rfl | rfl
  all_goals
    simp [zb_c0, zb_c1, zb_c2, zb_c3, zb_c4, zb_c5, zb_c6, zb_c7, zb_max]
    try (repeat' split)
    all_goals first | with_reducible rfl | simp_all
end
