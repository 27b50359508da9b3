/-! what two numbers share -/
theorem zb_l0 {b : Nat} (hb : b < 2 ^ 63) : (lN b = 0) = (b = 0) := propext (pk_lEQ (b := 0) hb (by decide))
theorem zb_lrm {a b : Nat} (ha : a < 2 ^ 63) (h0 : 0 < b) (hb : b < 2 ^ 63) : jm_lrm (lN a) (lN b) = some (lN (a % b)) := by
  unfold jm_lrm
  rw [if_neg (by rw [zb_l0 hb]; omega), pk_lRem ha h0 hb]
theorem zb_ldv {a b : Nat} (ha : a < 2 ^ 63) (h0 : 0 < b) (hb : b < 2 ^ 63) : jm_ldv (lN a) (lN b) = some (lN (a / b)) := by
  unfold jm_ldv
  rw [if_neg (by rw [zb_l0 hb]; omega), pk_lDiv ha h0 hb]
theorem zb_lcmp {b : Nat} (hb : b < 2 ^ 63) : (lg_cmp (lN b) 0 = 0) = (b = 0) := by
  rw [← zb_l0 hb]
  have h : ¬ lN b < 0 := by
    rw [show (0 : Int64) = lN 0 from rfl, pk_lLT hb (by decide)]
    omega
  unfold lg_cmp
  by_cases e : lN b = 0
  · rw [e]
    decide
  · rw [if_neg e]
    split <;> simp [e]
theorem gcd_half {b r : Nat} (h : 0 < r) (hr : r < b) : 2 * (b % r) < b := by
  have h1 := Nat.mod_lt b h
  have h2 := Nat.div_add_mod b r
  have h3 : 1 ≤ b / r := (Nat.one_le_div_iff h).2 (by omega)
  have h4 : r ≤ r * (b / r) := Nat.le_mul_of_pos_right r h3
  omega
theorem M_divisorA : ∀ f a b N, a < 2 ^ 63 → b < 2 ^ f → b < 2 ^ 63 → 2 * f < N → jm_loop sM_divisor_L6 N (lN a, lN b) = some (lN (Nat.gcd a b)) := by
  have z : ∀ a N, 0 < N → jm_loop sM_divisor_L6 N (lN a, lN 0) = some (lN (Nat.gcd a 0)) := by
    intro a N hN
    cases N with
    | zero => omega
    | succ N =>
      rw [jm_loop]
      unfold sM_divisor_L6
      simp only []
      rw [if_pos (by rw [zb_lcmp (by omega)]), Nat.gcd_zero_right]
  have s : ∀ a b N, a < 2 ^ 63 → b < 2 ^ 63 → 0 < b → jm_loop sM_divisor_L6 (N + 1) (lN a, lN b) = jm_loop sM_divisor_L6 N (lN b, lN (a % b)) := by
    intro a b N ha hb h0
    rw [jm_loop]
    unfold sM_divisor_L6
    simp only []
    rw [if_neg (by rw [zb_lcmp hb]; omega), zb_lrm ha h0 hb, zb_bs]
  have g : ∀ a b, Nat.gcd a b = Nat.gcd b (a % b) := fun a b => by rw [Nat.gcd_comm, Nat.gcd_rec, Nat.gcd_comm]
  intro f
  induction f with
  | zero =>
    intro a b N ha hb _ hN
    have : b = 0 := by omega
    subst this
    exact z a N (by omega)
  | succ f ih =>
    intro a b N ha hb hb2 hN
    have e : (2 : Nat) ^ (f + 1) = 2 ^ f + 2 ^ f := by rw [Nat.pow_succ]; omega
    rcases Nat.eq_zero_or_pos b with rfl | h0
    · exact z a N (by omega)
    · obtain ⟨N, rfl⟩ : ∃ K, N = K + 1 + 1 := ⟨N - 2, by omega⟩
      have h1 := Nat.mod_lt a h0
      rw [s a b _ ha hb2 h0, g a b]
      rcases Nat.eq_zero_or_pos (a % b) with h2 | h2
      · rw [h2]; exact z b _ (by omega)
      · have h3 := gcd_half h2 h1
        rw [s b (a % b) _ hb2 (by omega) h2, g b (a % b)]
        exact ih (a % b) (b % (a % b)) N (by omega) (by omega) (by omega) (by omega)
