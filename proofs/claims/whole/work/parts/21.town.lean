/-! what a town answers: the words of the specification, over T -/
abbrev ts_on (T : jm_T) (p q b : Nat) : Prop := T 9 b = nI p ∨ T 9 b = nI q
noncomputable def ts_rd (T : jm_T) (p b : Nat) : Int32 := (T 10 b >>> (nI p &&& 31)) &&& 1
noncomputable def ts_nov (T : jm_T) (b : Nat) : Int32 := if ts_bc (T 10 b) = 0 then 0 else T 7 b + ts_bc (T 10 b)
noncomputable def ts_ser (T : jm_T) (b : Nat) : Int32 := if ts_bc (T 10 b) = 0 then T 7 b + 5 else ts_nov T b
noncomputable def ts_weighs (T : jm_T) (b : Nat) : Int32 :=
  if T 6 b = 0 then ts_nov T b else if T 6 b = 1 then ts_nov T b + 2 else if T 6 b = 2 then 2 * T 7 b else if T 6 b = 3 then ts_ser T b
  else if T 6 b = 4 then ts_nov T b + 2 + ts_bc (T 10 b) else if T 6 b = 5 then 2 * T 7 b / 2 + ts_len (T 11 b)
  else if T 6 b = 6 then (if T 0 11 - T 0 11 / 2 * 2 = 1 then ts_ser T b + 3 else ts_ser T b + 0) else jm_max 10 (ts_nov T b + 2 + ts_bc (T 10 b))
noncomputable def ts_price (T : jm_T) (b : Nat) : Int32 :=
  if T 6 b = 0 then T 7 b + 1 else if T 6 b = 1 then 2 else if T 6 b = 2 then 3 * (T 7 b + 1) else if T 6 b = 3 then 1
  else if T 6 b = 4 then 2 + T 7 b else if T 6 b = 5 then jm_max 0 (3 * (T 7 b + 1) - 5) else if T 6 b = 6 then 1 + 4 else 0
noncomputable def ts_step (T : jm_T) (m : Int32) (i : Nat) (v : Int32) : Int32 :=
  if T 14 i = 0 then v + T 15 i else if T 14 i = 1 then jm_max 0 (v - T 15 i) else if T 14 i = 2 then jm_min v (T 15 i)
  else if T 14 i = 3 then (if T 15 i ≤ v then v else 0) else if T 14 i = 4 then (if m = 2 then 2 * v else v)
  else if T 14 i = 5 then (if m = 0 then 0 else v) else if T 14 i = 6 then v / 2 else v + (T 0 11 - T 0 11 / 2 * 2)
noncomputable def ts_comes (T : jm_T) (p q b : Nat) : Int32 := zf (ts_step T (ts_rd T p b + ts_rd T q b)) (ns T) (ts_weighs T b)
noncomputable def ts_overN (T : jm_T) (p q n : Nat) : Int32 := zf (fun b v => if ts_on T p q b then v + ts_comes T p q b else v) n (-T 2 p - T 2 q)
noncomputable def ts_over (T : jm_T) (p q : Nat) : Int32 := ts_overN T p q (nb T)
theorem T_hasPerson_y {M : jm_M} {t k : Nat} (hc : ctT (M t)) (hk : k < np (M t)) : sT_hasPerson M t (nI k) = some 1 := by
  have h := hc.p
  unfold sT_hasPerson
  rw [h.1, if_neg (zb_nd (by omega)), if_neg (zb_nle hk (by omega))]
theorem T_hasPerson_n {M : jm_M} {t : Nat} {x : Int32} (hc : ctT (M t)) (hx : x < 0 ∨ (¬ x < 0 ∧ nI (np (M t)) ≤ x)) : sT_hasPerson M t x = some 0 := by
  have h := hc.p
  unfold sT_hasPerson
  rcases hx with hx | ⟨h0, hx⟩
  · rw [if_pos hx]
  · rw [if_neg h0, h.1, if_pos hx]
theorem T_hasBook_y {M : jm_M} {t k : Nat} (hc : ctT (M t)) (hk : k < nb (M t)) : sT_hasBook M t (nI k) = some 1 := by
  have h := hc.b
  unfold sT_hasBook
  rw [h.1, if_neg (zb_nd (by omega)), if_neg (zb_nle hk (by omega))]
theorem T_hasBook_n {M : jm_M} {t : Nat} {x : Int32} (hc : ctT (M t)) (hx : x < 0 ∨ (¬ x < 0 ∧ nI (nb (M t)) ≤ x)) : sT_hasBook M t x = some 0 := by
  have h := hc.b
  unfold sT_hasBook
  rcases hx with hx | ⟨h0, hx⟩
  · rw [if_pos hx]
  · rw [if_neg h0, h.1, if_pos hx]
theorem T_hasRead {M : jm_M} {t p b : Nat} (hb : b < 10) : sT_hasRead M t (nI p) (nI b) = some (ts_rd (M t) p b) := by
  unfold sT_hasRead ts_rd
  rw [zb_rd hb (by omega)]
  rfl
theorem T_isOnPan {M : jm_M} {t p q b : Nat} (hb : b < 10) : sT_isOnPan M t (nI p) (nI q) (nI b) = some (if ts_on (M t) p q b then 1 else 0) := by
  unfold sT_isOnPan ts_on
  rw [zb_rd hb (by omega)]
  simp only [zb_bs]
  by_cases h1 : M t 9 b = nI p
  · simp [h1]
  · by_cases h2 : M t 9 b = nI q
    · simp [h2]
    · simp [h1, h2]
theorem T_weighs {M : jm_M} {t b : Nat} (hb : b < 10) : sT_weighs M t (nI b) = some (ts_weighs (M t) b) := by
  unfold sT_weighs ts_weighs ts_ser ts_nov
  simp only [zb_rd hb (show 10 < 2000 by omega), zb_bs, J_bitCount, I_lengthOf]
  unfold jm_dv jm_rm
  simp only [show ¬ (2 : Int32) = 0 by decide, if_false, zb_bs]
  by_cases hr : ts_bc (M t 10 b) = 0
  all_goals
    simp only [hr, if_true, if_false, zb_bs]
    repeat' split
    all_goals first | rfl | simp_all
theorem T_priceOf {M : jm_M} {t b : Nat} (hb : b < 10) : sT_priceOf M t (nI b) = some (ts_price (M t) b) := by
  unfold sT_priceOf ts_price
  simp only [zb_rd hb (show 10 < 2000 by omega), zb_bs]
  repeat' split
  all_goals first | rfl | simp_all
theorem T_stepped {M : jm_M} {t i : Nat} {v m : Int32} (hi : i < 6) : sT_stepped M t v (nI i) m = some (ts_step (M t) m i v) := by
  unfold sT_stepped ts_step
  simp only [zb_rd hi (show 6 < 2000 by omega), zb_bs]
  unfold jm_dv jm_rm
  simp only [show ¬ (2 : Int32) = 0 by decide, if_false, zb_bs]
  repeat' split
  all_goals first | rfl | simp_all
theorem T_comesTo {M : jm_M} {t p q b : Nat} (hc : ctT (M t)) (hb : b < 10) : sT_comesTo M t (nI p) (nI q) (nI b) = some (ts_comes (M t) p q b) := by
  have h := hc.s
  unfold sT_comesTo ts_comes
  simp only [T_hasRead hb, T_weighs hb, zb_bs]
  refine zb_forB (fun k => (zf (ts_step (M t) (ts_rd (M t) p b + ts_rd (M t) q b)) k (ts_weighs (M t) b), nI k)) _ (ns (M t)) rfl ?_ ?_ (by omega) rfl
  · intro k hk
    unfold sT_comesTo_L25
    rw [h.1, if_neg (zb_nle hk (by omega)), T_stepped (by omega)]
    simp only [zb_bs, nI_1]
    rfl
  · unfold sT_comesTo_L25
    rw [h.1, if_pos (zb_yle (Nat.le_refl _) (by omega))]
theorem T_overOf {M : jm_M} {t p q : Nat} (hc : ctT (M t)) (hp : p < 6) (hq : q < 6) : sT_overOf M t (nI p) (nI q) = some (ts_over (M t) p q) := by
  have h := hc.b
  unfold sT_overOf ts_over
  simp only [zb_rd hp (show 6 < 2000 by omega), zb_rd hq (show 6 < 2000 by omega), zb_bs]
  refine zb_forB (fun k => (ts_overN (M t) p q k, nI k)) _ (nb (M t)) rfl ?_ ?_ (by omega) rfl
  · intro k hk
    unfold sT_overOf_L18
    rw [h.1, if_neg (zb_nle hk (by omega)), T_isOnPan (by omega), T_comesTo hc (by omega)]
    simp only [zb_bs, nI_1, ts_overN, zf]
    split <;> simp_all
  · unfold sT_overOf_L18
    rw [h.1, if_pos (zb_yle (Nat.le_refl _) (by omega))]
theorem T_comesDown {M : jm_M} {t p q : Nat} (hc : ctT (M t)) (hp : p < 6) (hq : q < 6) : sT_comesDown M t (nI p) (nI q) = some (if ts_over (M t) p q < 0 then 0 else 1) := by
  unfold sT_comesDown
  rw [T_overOf hc hp hq]
  simp only [zb_bs]
  split <;> rfl
