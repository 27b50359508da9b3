/-! what two numbers share -/
theorem zb_l0 {b : Nat} (hb : b < 2 ^ 63) : (lN b = 0) = (b = 0) := propext (pk_lEQ (b := 0) hb (by decide))
theorem zb_lrm {a b : Nat} (ha : a < 2 ^ 63) (h0 : 0 < b) (hb : b < 2 ^ 63) : jm_lrm (lN a) (lN b) = some (lN (a % b)) := by
  unfold jm_lrm
  rw [if_neg (by rw [zb_l0 hb]; omega), pk_lRem ha h0 hb]
theorem zb_ldv {a b : Nat} (ha : a < 2 ^ 63) (h0 : 0 < b) (hb : b < 2 ^ 63) : jm_ldv (lN a) (lN b) = some (lN (a / b)) := by
  unfold jm_ldv
  rw [if_neg (by rw [zb_l0 hb]; omega), pk_lDiv ha h0 hb]
