theorem Q_divisorA : ∀ f a b i N, a < 2 ^ 63 → b < 2 ^ f → b < 2 ^ 63 → i + 2 * f ≤ 130 → 2 * f < N → jm_loop sQ_sharedDivisor_L9 N (lN a, lN b, nI i) = some (lN (Nat.gcd a b)) := by
  have z : ∀ a i N, 0 < N → jm_loop sQ_sharedDivisor_L9 N (lN a, lN 0, nI i) = some (lN (Nat.gcd a 0)) := by
    intro a i N hN
    cases N with
    | zero => omega
    | succ N =>
      rw [jm_loop]
      unfold sQ_sharedDivisor_L9
      simp only []
      rw [if_pos (show lg_cmp (lN 0) 0 = 0 by rw [zb_lcmp (by omega)]), ite_self, Nat.gcd_zero_right]
  have s : ∀ a b i N, a < 2 ^ 63 → b < 2 ^ 63 → 0 < b → i < 130 → jm_loop sQ_sharedDivisor_L9 (N + 1) (lN a, lN b, nI i) = jm_loop sQ_sharedDivisor_L9 N (lN b, lN (a % b), nI (i + 1)) := by
    intro a b i N ha hb h0 hi
    rw [jm_loop]
    unfold sQ_sharedDivisor_L9
    simp only []
    rw [if_neg (show ¬ (130 : Int32) ≤ nI i from zb_nle (a := 130) hi (by omega)), if_neg (show ¬ lg_cmp (lN b) 0 = 0 by rw [zb_lcmp hb]; omega), zb_lrm ha h0 hb, zb_bs, nI_1]
  have g : ∀ a b, Nat.gcd a b = Nat.gcd b (a % b) := fun a b => by rw [Nat.gcd_comm, Nat.gcd_rec, Nat.gcd_comm]
  intro f
  induction f with
  | zero =>
    intro a b i N ha hb _ hi hN
    have : b = 0 := by omega
    subst this
    exact z a i N (by omega)
  | succ f ih =>
    intro a b i N ha hb hb2 hi hN
    have e : (2 : Nat) ^ (f + 1) = 2 ^ f + 2 ^ f := by rw [Nat.pow_succ]; omega
    rcases Nat.eq_zero_or_pos b with rfl | h0
    · exact z a i N (by omega)
    · obtain ⟨N, rfl⟩ : ∃ K, N = K + 1 + 1 := ⟨N - 2, by omega⟩
      have h1 := Nat.mod_lt a h0
      rw [s a b i _ ha hb2 h0 (by omega), g a b]
      rcases Nat.eq_zero_or_pos (a % b) with h2 | h2
      · rw [h2]; exact z b _ _ (by omega)
      · have h3 := gcd_half h2 h1
        rw [s b (a % b) _ _ hb2 (by omega) h2 (by omega), g b (a % b)]
        exact ih (a % b) (b % (a % b)) _ N (by omega) (by omega) (by omega) (by omega) (by omega)
theorem M_divisor {a b : Nat} (ha : a < 2 ^ 63) (hb : b < 2 ^ 62) : sM_divisor (lN a) (lN b) = some (lN (Nat.gcd a b)) := by
  unfold sM_divisor
  rw [M_divisorA 62 a b jm_N ha hb (by omega) (by rw [jm_N_eq]; omega), zb_bs]
theorem Q_sharedDivisor {a b : Nat} (ha : a < 2 ^ 63) (hb : b < 2 ^ 62) : sQ_sharedDivisor (lN a) (lN b) = some (lN (Nat.gcd a b)) := by
  unfold sQ_sharedDivisor
  have e := Q_divisorA 62 a b 0 jm_N ha hb (by omega) (by omega) (by rw [jm_N_eq]; omega)
  rw [show (0 : Int32) = nI 0 from rfl, e, zb_bs]
theorem parts {a b : Nat} {x : Int32} (ha : a < 2 ^ 62) (hb : b < 2 ^ 62) (h0 : 0 < b) (hx : x = 0 ∨ x = 1) : ∃ v, sQ_part (lN a) (lN b) x = some v ∧ sM_partOf (lN a) (lN b) x = some v := by
  unfold sQ_part sM_partOf
  have hg : 0 < Nat.gcd a b := Nat.gcd_pos_of_pos_right a h0
  have hg2 : Nat.gcd a b ≤ b := Nat.le_of_dvd h0 (Nat.gcd_dvd_right a b)
  rw [M_divisor (by omega) hb, Q_sharedDivisor (by omega) hb, zb_bs]
  simp only [zb_bs]
  rw [if_neg (show ¬ lg_cmp (lN (Nat.gcd a b)) 0 = 0 by rw [zb_lcmp (by omega)]; omega), zb_ldv (by omega) hg (by omega), zb_ldv (by omega) hg (by omega)]
  by_cases e : a = 0
  · subst e
    rw [if_pos (show lg_cmp (lN 0) 0 = 0 by rw [zb_lcmp (by omega)])]
    rcases hx with rfl | rfl
    · rw [if_pos rfl, zb_bs, zb_ldv (by omega) hg (by omega), zb_bs, Nat.zero_div]
      exact ⟨_, rfl, rfl⟩
    · rw [if_neg (by decide), zb_bs, zb_ldv (by omega) hg (by omega), zb_bs, Nat.gcd_zero_left, Nat.div_self h0]
      exact ⟨_, rfl, rfl⟩
  · rw [if_neg (show ¬ lg_cmp (lN a) 0 = 0 by rw [zb_lcmp (by omega)]; exact e)]
    rcases hx with rfl | rfl
    · rw [if_pos rfl, if_pos rfl, zb_bs, zb_bs, zb_ldv (by omega) hg (by omega), zb_bs]
      exact ⟨_, rfl, rfl⟩
    · rw [if_neg (by decide), if_neg (by decide), zb_bs, zb_bs, zb_ldv (by omega) hg (by omega), zb_bs]
      exact ⟨_, rfl, rfl⟩
