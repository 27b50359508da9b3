/-! a book otherwise: the weeks go on alike; sets of numbers -/
theorem pt_comm {T : jm_T} {j i j' i' : Nat} {v v' : Int32} (h : ¬ j = j') : pt (pt T j i v) j' i' v' = pt (pt T j' i' v') j i v := by
  funext a b
  unfold pt
  by_cases h1 : a = j
  · subst h1
    have : ¬ (a = j' ∧ b = i') := fun e => h e.1
    simp [this]
  · have : ¬ (a = j ∧ b = i) := fun e => h1 e.1
    simp [this]
theorem pt_2 {T : jm_T} {j i : Nat} {v v' : Int32} : pt (pt T j i v) j i v' = pt T j i v' := by
  funext a b
  unfold pt
  by_cases h : a = j ∧ b = i
  · simp [h]
  · simp [h]
section
variable {T : jm_T} {j c : Nat} {x : Int32}
theorem np_pt (hj : j = 6 ∨ j = 7) : np (pt T j c x) = np T := np_e (by rw [pt_j (by omega)])
theorem nb_pt (hj : j = 6 ∨ j = 7) : nb (pt T j c x) = nb T := nb_e (by rw [pt_j (by omega)])
theorem nx_pt (hj : j = 6 ∨ j = 7) (p : Nat) : ∀ n, nx (pt T j c x) p n = nx T p n := by
  intro n
  unfold nx
  refine zf_congr n none (fun k _ o => ?_)
  unfold nxF ts_rd lessT
  rw [pt_j (show ¬ 9 = j by omega), pt_j (show ¬ 10 = j by omega), pt_j (show ¬ 11 = j by omega)]
theorem ea_pt (hj : j = 6 ∨ j = 7) (p : Nat) : eaN p (pt T j c x) = pt (eaN p T) j c x := by
  unfold eaN
  rw [pt_j (show ¬ 3 = j by omega), pt_j (show ¬ 0 = j by omega), pt_j (show ¬ 2 = j by omega)]
  split
  · exact pt_comm (by omega)
  · rfl
theorem rd_pt (hj : j = 6 ∨ j = 7) (p : Nat) : rdN p (pt T j c x) = pt (rdN p T) j c x := by
  unfold rdN
  rw [nb_pt hj, nx_pt hj]
  cases nx T p (nb T) with
  | none => rfl
  | some b =>
    show rdB (pt T j c x) p b = pt (rdB T p b) j c x
    unfold rdB
    rw [pt_j (show ¬ 10 = j by omega), pt_j (show ¬ 8 = j by omega), pt_comm (show ¬ j = 10 by omega), pt_comm (show ¬ j = 9 by omega)]
theorem go_pt (hj : j = 6 ∨ j = 7) (r : Bool) (p : Nat) : goP r p (pt T j c x) = pt (goP r p T) j c x := by
  unfold goP
  rw [ea_pt hj]
  split
  · exact rd_pt hj p
  · rfl
theorem gos_pt (hj : j = 6 ∨ j = 7) (r : Bool) : ∀ n, zf (goP r) n (pt T j c x) = pt (zf (goP r) n T) j c x := by
  intro n
  induction n with
  | zero => rfl
  | succ n ih => rw [zf, zf, ih, go_pt hj]
theorem wkS_pt (hj : j = 6 ∨ j = 7) (r : Bool) : wkS r (pt T j c x) = pt (wkS r T) j c x := by
  unfold wkS
  rw [np_pt hj, ← gos_pt hj]
  congr 1
  unfold wkT
  rw [pt_j (show ¬ 0 = j by omega)]
  exact pt_comm (by omega)
theorem wkN_pt (hj : j = 6 ∨ j = 7) : ∀ n, wkN n (pt T j c x) = pt (wkN n T) j c x := by
  intro n
  induction n with
  | zero => rfl
  | succ n ih =>
    show wkS true (wkN n (pt T j c x)) = pt (wkS true (wkN n T)) j c x
    rw [ih, wkS_pt hj]
theorem wf_kf {w N v : Nat} (h : wfT w T) (hj : (j = 6 ∧ N = 8) ∨ (j = 7 ∧ N = 10)) (hv : v < N) : wfT w (pt T j c (nI v)) := by
  refine wf_of h (by rw [pt_j (by omega)]) (by rw [pt_j (by omega)]) (by rw [pt_j (by omega)]) (by rw [pt_j (by omega)]; exact h.2.1) ?_ ?_ ⟨pt_j (by omega), pt_j (by omega)⟩
  · rw [pt_j (by omega), pt_j (by omega), pt_j (by omega)]; exact h.2.2.1
  · rw [pt_j (show ¬ 8 = j by omega), pt_j (show ¬ 9 = j by omega), pt_j (show ¬ 10 = j by omega), pt_j (show ¬ 11 = j by omega)]
    intro b hb
    obtain ⟨a1, a2, a3, a4, a5, a6⟩ := h.2.2.2.1 b hb
    refine ⟨?_, ?_, a3, a4, a5, rfl⟩
    · by_cases e : 6 = j
      · subst e
        by_cases e2 : b = c
        · subst e2; rw [pt_s]; exact ⟨v, by omega, rfl⟩
        · rw [pt_k e2]; exact a1
      · rw [pt_j e]; exact a1
    · by_cases e : 7 = j
      · subst e
        by_cases e2 : b = c
        · subst e2; rw [pt_s]; exact ⟨v, by omega, rfl⟩
        · rw [pt_k e2]; exact a2
      · rw [pt_j e]; exact a2
end
def isM (N : Nat) (P : Nat → Prop) (m : Int32) : Prop := ∃ s, s < 2 ^ N ∧ m = nI s ∧ ∀ v, v < N → (s.testBit v = true ↔ P v)
theorem isM_un {N : Nat} {P : Nat → Prop} {m m' : Int32} (h : isM N P m) (h' : isM N P m') : m = m' := by
  obtain ⟨s, s1, rfl, s3⟩ := h
  obtain ⟨t, t1, rfl, t3⟩ := h'
  congr 1
  refine Nat.eq_of_testBit_eq (fun i => ?_)
  rcases Nat.lt_or_ge i N with h | h
  · rw [Bool.eq_iff_iff, s3 i h, t3 i h]
  · have hp : (2 : Nat) ^ N ≤ 2 ^ i := Nat.pow_le_pow_right (by omega) h
    rw [Nat.testBit_lt_two_pow (show s < 2 ^ i by omega), Nat.testBit_lt_two_pow (show t < 2 ^ i by omega)]
theorem isM_iff {N : Nat} {P Q : Nat → Prop} {m : Int32} (h : isM N P m) (hq : ∀ v, v < N → (P v ↔ Q v)) : isM N Q m := by
  obtain ⟨s, s1, s2, s3⟩ := h
  exact ⟨s, s1, s2, fun v hv => (s3 v hv).trans (hq v hv)⟩
theorem zb_clr : ∀ v, v < 10 → ∀ s, s < 1024 → nI s &&& (((1 : Int32) <<< (nI v &&& 31)) ^^^ (-1)) = nI (s &&& (1023 - 2 ^ v)) := by decide +kernel
theorem zb_tb : ∀ v, v < 10 → ∀ u, u < 10 → (1023 - 2 ^ v).testBit u = !decide (u = v) := by decide +kernel
theorem zb_tb2 : ∀ n, n < 10 → ∀ s, s < 2 ^ n → ∀ u, u < n → (s + 2 ^ n).testBit u = s.testBit u := by decide +kernel
theorem zb_tb3 : ∀ n, n < 10 → ∀ s, s < 2 ^ n → (s + 2 ^ n).testBit n = true := by decide +kernel
theorem isM_clr {N : Nat} (hN : N ≤ 10) {P : Nat → Prop} {m : Int32} (h : isM N P m) {v : Nat} (hv : v < N) : isM N (fun u => P u ∧ ¬ u = v) (m &&& (((1 : Int32) <<< (nI v &&& 31)) ^^^ (-1))) := by
  obtain ⟨s, s1, rfl, s3⟩ := h
  have hp : (2 : Nat) ^ N ≤ 2 ^ 10 := Nat.pow_le_pow_right (by omega) hN
  refine ⟨s &&& (1023 - 2 ^ v), Nat.lt_of_le_of_lt Nat.and_le_left s1, zb_clr v (by omega) s (by omega), fun u hu => ?_⟩
  rw [Nat.testBit_and, zb_tb v (by omega) u (by omega), Bool.and_eq_true, s3 u hu]
  simp
theorem isM_full {N : Nat} (hN : N = 8 ∨ N = 10) : isM N (fun _ => True) (((1 : Int32) <<< (nI N &&& 31)) - 1) := by
  rcases hN with rfl | rfl
  · exact ⟨255, by decide, by decide, fun v hv => ⟨fun _ => trivial, fun _ => (show ∀ v, v < 8 → Nat.testBit 255 v = true by decide) v hv⟩⟩
  · exact ⟨1023, by decide, by decide, fun v hv => ⟨fun _ => trivial, fun _ => (show ∀ v, v < 10 → Nat.testBit 1023 v = true by decide) v hv⟩⟩
theorem isM_0 (P : Nat → Prop) : isM 0 P 0 := ⟨0, by decide, rfl, fun v hv => by omega⟩
theorem isM_add {n : Nat} (hn : n < 10) {P : Nat → Prop} {m : Int32} (h : isM n P m) (hp : P n) : isM (n + 1) P (m ||| ((1 : Int32) <<< (nI n &&& 31))) := by
  obtain ⟨s, s1, rfl, s3⟩ := h
  have e : (2 : Nat) ^ (n + 1) = 2 ^ n + 2 ^ n := by rw [Nat.pow_succ]; omega
  refine ⟨s + 2 ^ n, by omega, (zb_bitn n hn s s1).1, fun u hu => ?_⟩
  rcases Nat.lt_or_ge u n with g | g
  · rw [zb_tb2 n hn s s1 u g, s3 u g]
  · rw [show u = n by omega, zb_tb3 n hn s s1]
    exact ⟨fun _ => hp, fun _ => rfl⟩
theorem isM_not {n : Nat} {P : Nat → Prop} {m : Int32} (h : isM n P m) (hp : ¬ P n) : isM (n + 1) P (m ||| 0) := by
  obtain ⟨s, s1, rfl, s3⟩ := h
  have e : (2 : Nat) ^ (n + 1) = 2 ^ n + 2 ^ n := by rw [Nat.pow_succ]; omega
  refine ⟨s, by omega, Int32.or_zero, fun u hu => ?_⟩
  rcases Nat.lt_or_ge u n with g | g
  · exact s3 u g
  · rw [show u = n by omega, Nat.testBit_lt_two_pow s1]
    exact ⟨fun q => by simp at q, fun q => absurd q hp⟩
