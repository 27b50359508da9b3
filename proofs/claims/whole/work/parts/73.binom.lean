/-! weeks with and without reading: it is enough how many -/
noncomputable def pw (b : Bool) (n : Nat) (T : jm_T) : jm_T := zf (fun _ => wkS b) n T
theorem pw_S (b : Bool) (n : Nat) (T : jm_T) : pw b (n + 1) T = wkS b (pw b n T) := rfl
theorem pw_comm (T : jm_T) : ∀ n, wkS true (pw false n T) = pw false n (wkS true T) := by
  intro n
  induction n with
  | zero => rfl
  | succ n ih => rw [pw_S, pw_S, wk_comm, ih]
noncomputable def wkD (n d : Nat) (T : jm_T) : jm_T := pw false (n - d) (pw true d T)
theorem wkD_0 (T : jm_T) : wkD 0 0 T = T := rfl
theorem wkD_t {n d : Nat} (h : d ≤ n) (T : jm_T) : wkS true (wkD n d T) = wkD (n + 1) (d + 1) T := by
  unfold wkD
  rw [pw_comm, show n + 1 - (d + 1) = n - d by omega]
  rfl
theorem wkD_f {n d : Nat} (h : d ≤ n) (T : jm_T) : wkS false (wkD n d T) = wkD (n + 1) d T := by
  unfold wkD
  rw [show n + 1 - d = (n - d) + 1 by omega]
  rfl
theorem wf_pw {w : Nat} {T : jm_T} (b : Bool) (h : wfT w T) : ∀ n, wfT (w + n) (pw b n T) := by
  intro n
  induction n with
  | zero => exact h
  | succ n ih => exact wf_wkS b ih
theorem wf_wkD {w n d : Nat} {T : jm_T} (h : wfT w T) (hd : d ≤ n) : wfT (w + n) (wkD n d T) := by
  have := wf_pw false (wf_pw true h d) (n - d)
  rw [show w + d + (n - d) = w + n by omega] at this
  exact this
theorem np_pw (b : Bool) (T : jm_T) : ∀ n, np (pw b n T) = np T := by
  intro n
  induction n with
  | zero => rfl
  | succ n ih => rw [pw_S, np_wkS, ih]
theorem np_wkD (n d : Nat) (T : jm_T) : np (wkD n d T) = np T := by
  unfold wkD
  rw [np_pw, np_pw]
theorem ZT_pw {w : Nat} {T : jm_T} (b : Bool) (h : wfT w T) (hz : ZT T) : ∀ n, ZT (pw b n T) := by
  intro n
  induction n with
  | zero => exact hz
  | succ n ih => exact ZT_wkS ih b (wf_pw b h n).1
theorem ZT_wkD {w n d : Nat} {T : jm_T} (h : wfT w T) (hz : ZT T) : ZT (wkD n d T) := ZT_pw false (wf_pw true h d) (ZT_pw true h hz d) (n - d)
/-! sets by how many they leave out -/
noncomputable def cz (n s : Nat) : Nat := zc (fun j => s.testBit j = false) n
theorem cz_S (n s : Nat) : cz (n + 1) s = if s.testBit n = false then cz n s + 1 else cz n s := rfl
theorem cz_le (n s : Nat) : cz n s ≤ n := zc_le _ n
noncomputable def bn : Nat → (Nat → Nat) → Nat
  | 0, F => F 0
  | n + 1, F => bn n F + bn n (fun d => F (d + 1))
noncomputable def uS (n : Nat) (F : Nat → Nat) (k : Nat) : Nat := zf (fun s a => a + F (cz n s)) k 0
theorem uS_S (n : Nat) (F : Nat → Nat) (k : Nat) : uS n F (k + 1) = uS n F k + F (cz n k) := rfl
theorem uS_lo {n : Nat} (F : Nat → Nat) : ∀ k, k ≤ 2 ^ n → uS (n + 1) F k = uS n (fun d => F (d + 1)) k := by
  intro k
  induction k with
  | zero => intro _; rfl
  | succ k ih =>
    intro hk
    rw [uS_S, uS_S, ih (by omega), cz_S, if_pos (Nat.testBit_lt_two_pow (by omega))]
theorem cz_hi {n : Nat} (hn : n < 10) {j : Nat} (hj : j < 2 ^ n) : cz (n + 1) (2 ^ n + j) = cz n j := by
  rw [Nat.add_comm (2 ^ n) j, cz_S, zb_tb3 n hn j hj, if_neg (by decide)]
  exact zc_congr n (fun k hk => by rw [zb_tb2 n hn j hj k hk])
theorem uS_hi {n : Nat} (hn : n < 10) (F : Nat → Nat) : ∀ j, j ≤ 2 ^ n → uS (n + 1) F (2 ^ n + j) = uS n (fun d => F (d + 1)) (2 ^ n) + uS n F j := by
  intro j
  induction j with
  | zero => intro _; exact uS_lo F _ (Nat.le_refl _)
  | succ j ih =>
    intro hj
    rw [show 2 ^ n + (j + 1) = 2 ^ n + j + 1 by omega, uS_S, uS_S, ih (by omega), cz_hi hn (by omega)]
    omega
theorem uS_bn : ∀ n, n ≤ 10 → ∀ F : Nat → Nat, uS n F (2 ^ n) = bn n F := by
  intro n
  induction n with
  | zero => intro _ F; show 0 + F (cz 0 0) = F 0; rw [Nat.zero_add]; rfl
  | succ n ih =>
    intro hn F
    have e : (2 : Nat) ^ (n + 1) = 2 ^ n + 2 ^ n := by rw [Nat.pow_succ]; omega
    rw [e, uS_hi (by omega) F _ (Nat.le_refl _), ih (by omega), ih (by omega)]
    show _ = bn n F + bn n (fun d => F (d + 1))
    omega
/-- how many ways there are, one behind the other -/
def wy (n : Nat) : Nat → Nat
  | 0 => 1
  | k + 1 => wy n k * (n - k) / (k + 1)
noncomputable def ks (n : Nat) (F : Nat → Nat) (k : Nat) : Nat := zf (fun d a => a + wy n d * F d) k 0
theorem ks_S (n : Nat) (F : Nat → Nat) (k : Nat) : ks n F (k + 1) = ks n F k + wy n k * F k := rfl
theorem wy_le : ∀ n, n ≤ 7 → ∀ k, k ≤ 8 → wy n k ≤ 35 := by decide
theorem ks_bn {n : Nat} (hn : n ≤ 7) (F : Nat → Nat) : ks n F (n + 1) = bn n F := by
  have h : n = 0 ∨ n = 1 ∨ n = 2 ∨ n = 3 ∨ n = 4 ∨ n = 5 ∨ n = 6 ∨ n = 7 := by omega
  rcases h with rfl | rfl | rfl | rfl | rfl | rfl | rfl | rfl
  all_goals simp [ks, zf, bn, wy]
  all_goals omega
theorem bn_le {t : Nat} (ht : 1 ≤ t) : ∀ n (F : Nat → Nat) (c : Nat), (∀ d, F d ≤ c * (t - 1) ^ d) → bn n F ≤ c * t ^ n := by
  intro n
  induction n with
  | zero =>
    intro F c h
    have := h 0
    show F 0 ≤ _
    rw [Nat.pow_zero] at this ⊢
    exact this
  | succ n ih =>
    intro F c h
    have a := ih F c h
    have b := ih (fun d => F (d + 1)) (c * (t - 1)) (fun d => by
      have := h (d + 1)
      rw [Nat.pow_succ, Nat.mul_comm ((t - 1) ^ d), ← Nat.mul_assoc] at this
      exact this)
    show bn n F + bn n (fun d => F (d + 1)) ≤ _
    have e : c * t ^ (n + 1) = c * t ^ n + c * (t - 1) * t ^ n := by
      obtain ⟨u, rfl⟩ : ∃ u, t = u + 1 := ⟨t - 1, by omega⟩
      rw [Nat.add_sub_cancel, Nat.pow_succ, Nat.mul_assoc c u, ← Nat.mul_add, Nat.mul_add ((u + 1) ^ n) u 1, Nat.mul_one, Nat.mul_comm ((u + 1) ^ n) u, Nat.add_comm]
    rw [e]
    omega
