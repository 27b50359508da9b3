/-! couples: the most, and who with whom -/
def lb (s : Nat) : Nat := if s.testBit 0 then 0 else if s.testBit 1 then 1 else if s.testBit 2 then 2 else if s.testBit 3 then 3 else if s.testBit 4 then 4 else 5
def wo (s q : Nat) : Nat := s &&& (1023 - 2 ^ q)
theorem lb_at : ∀ s, s < 64 → 0 < s → s.testBit (lb s) = true ∧ lb s < 6 := by decide +kernel
theorem lb_lo : ∀ s, s < 64 → ∀ j, j < lb s → s.testBit j = false := by
  have h : ∀ s, s < 64 → ∀ j, j < 6 → j < lb s → s.testBit j = false := by decide +kernel
  have h2 : ∀ s, s < 64 → lb s < 6 := by decide +kernel
  intro s hs j hj
  have := h2 s hs
  exact h s hs j (by omega) hj
theorem wo_le (s q : Nat) : wo s q ≤ s := Nat.and_le_left
theorem wo_tb {s q b : Nat} (hq : q < 10) (hb : b < 10) : (wo s q).testBit b = (s.testBit b && !decide (b = q)) := by
  unfold wo
  rw [Nat.testBit_and, zb_tb q hq b hb]
theorem wo_lt : ∀ s, s < 64 → ∀ q, q < 6 → s.testBit q = true → wo s q < s := by decide +kernel
theorem zb_pb : ∀ c, c < 64 → ∀ q, q < 6 → ((nI c &&& ((1 : Int32) <<< (nI q &&& 31)) = 0) ↔ c.testBit q = false) := by decide +kernel
theorem nI_and (a b : Nat) : nI a &&& nI b = nI (a &&& b) := by
  rw [← Int32.toBitVec_inj]
  show BitVec.ofNat 32 a &&& BitVec.ofNat 32 b = BitVec.ofNat 32 (a &&& b)
  exact (BitVec.ofNat_and).symm
theorem zb_clr6 {s q : Nat} (hs : s < 1024) (hq : q < 10) : nI s &&& (((1 : Int32) <<< (nI q &&& 31)) ^^^ (-1)) = nI (wo s q) := zb_clr q hq s hs
theorem zb_maxI {a c : Nat} (ha : a < 1000000) (hc : c < 1000000) : jm_max (nI a) (nI c) = nI (max a c) := by
  rw [zb_max]
  rcases Nat.le_total a c with h | h
  · rw [if_pos (zb_yle h hc), Nat.max_eq_right h]
  · rcases Nat.lt_or_ge c a with g | g
    · rw [if_neg (zb_nle g ha), Nat.max_eq_left h]
    · rw [show a = c by omega, if_pos (zb_yle (Nat.le_refl _) hc), Nat.max_self]
/-- two who come down -/
def dn (T : jm_T) (p q : Nat) : Prop := ¬ ts_over T p q < 0
noncomputable def dB (T : jm_T) (p q : Nat) : Bool := !decide (ts_over T p q < 0)
theorem dB_iff {T : jm_T} {p q : Nat} : dB T p q = true ↔ dn T p q := by unfold dB dn; simp
noncomputable def mxF (T : jm_T) (f : Nat → Nat) (p r q a : Nat) : Nat := if p < q ∧ r.testBit q = true ∧ dB T p q = true then max a (1 + f (wo r q)) else a
noncomputable def mxN (T : jm_T) (f : Nat → Nat) (p r n : Nat) : Nat := zf (mxF T f p r) n (f r)
noncomputable def mxV (T : jm_T) (f : Nat → Nat) (n s : Nat) : Nat := if s = 0 then 0 else mxN T f (lb s) (wo s (lb s)) n
noncomputable def mT (T : jm_T) (n : Nat) : Nat → Nat → Nat
  | 0 => fun _ => 0
  | k + 1 => fun s => if s = k then mxV T (mT T n k) n k else mT T n k s
noncomputable def mo (T : jm_T) (s : Nat) : Nat := mT T (np T) (s + 1) s
theorem mxN_lo (T : jm_T) (f : Nat → Nat) (p r : Nat) : ∀ k, k ≤ p + 1 → mxN T f p r k = f r := by
  intro k
  induction k with
  | zero => intro _; rfl
  | succ k ih =>
    intro hk
    show mxF T f p r k (mxN T f p r k) = f r
    rw [ih (by omega)]
    unfold mxF
    rw [if_neg (fun z => by omega)]
theorem mxN_S (T : jm_T) (f : Nat → Nat) (p r k : Nat) : mxN T f p r (k + 1) = if p < k ∧ r.testBit k = true ∧ dB T p k = true then max (mxN T f p r k) (1 + f (wo r k)) else mxN T f p r k := rfl
theorem mxN_congr {T : jm_T} {f g : Nat → Nat} {p r : Nat} (h : ∀ s, s ≤ r → f s = g s) (n : Nat) : mxN T f p r n = mxN T g p r n := by
  unfold mxN
  rw [h r (Nat.le_refl _)]
  refine zf_congr n _ (fun k _ y => ?_)
  unfold mxF
  rw [h _ (wo_le r k)]
theorem mxN_le {T : jm_T} {f : Nat → Nat} {p r : Nat} (h : ∀ s, s ≤ r → f s ≤ s) (n : Nat) : mxN T f p r n ≤ r + 1 := by
  induction n with
  | zero => have := h r (Nat.le_refl _); show f r ≤ r + 1; omega
  | succ n ih =>
    rw [mxN_S]
    have a := h _ (wo_le r n)
    have b := wo_le r n
    split
    · exact Nat.max_le.2 ⟨ih, by omega⟩
    · exact ih
theorem mT_st (T : jm_T) (n : Nat) : ∀ k s, s < k → mT T n k s = mT T n (s + 1) s := by
  intro k
  induction k with
  | zero => intro s h; omega
  | succ k ih =>
    intro s hs
    by_cases e : s = k
    · rw [e]
    · show (if s = k then _ else mT T n k s) = _
      rw [if_neg e]
      exact ih s (by omega)
theorem mo_eq (T : jm_T) {s : Nat} (h0 : 0 < s) (hs : s < 64) : mo T s = mxN T (mo T) (lb s) (wo s (lb s)) (np T) := by
  obtain ⟨l1, l2⟩ := lb_at s hs h0
  have hl := wo_lt s hs (lb s) l2 l1
  have e : mo T s = mxV T (mT T (np T) s) (np T) s := by
    show (if s = s then _ else _) = _
    rw [if_pos rfl]
  rw [e]
  unfold mxV
  rw [if_neg (by omega)]
  exact mxN_congr (fun u hu => mT_st T (np T) s u (by omega)) _
theorem mo_0 (T : jm_T) : mo T 0 = 0 := rfl
theorem mo_le (T : jm_T) : ∀ n s, s < n → s < 64 → mo T s ≤ s := by
  intro n
  induction n with
  | zero => intro s h; omega
  | succ n ih =>
    intro s hs h64
    rcases Nat.eq_zero_or_pos s with rfl | h0
    · exact Nat.le_refl _
    · obtain ⟨l1, l2⟩ := lb_at s h64 h0
      have hl := wo_lt s h64 (lb s) l2 l1
      rw [mo_eq T h0 h64]
      have := mxN_le (T := T) (f := mo T) (p := lb s) (r := wo s (lb s)) (fun u hu => ih u (by omega) (by omega)) (np T)
      omega
theorem mo_64 (T : jm_T) {s : Nat} (hs : s < 64) : mo T s < 64 := by
  have := mo_le T (s + 1) s (by omega) hs
  omega
/-- who is the partner of p, of those that are left -/
noncomputable abbrev pqP (T : jm_T) (p s q : Nat) : Prop := p < q ∧ (wo s p).testBit q = true ∧ dB T p q = true ∧ 1 + mo T (wo (wo s p) q) = mo T s
noncomputable def pqO (T : jm_T) (p s : Nat) : Option Nat := (zb_ff_ex (pqP T p s) (np T)).choose
theorem pqO_at (T : jm_T) (p s : Nat) : zb_ff (pqP T p s) (np T) (pqO T p s) := (zb_ff_ex (pqP T p s) (np T)).choose_spec
def upf (g : Nat → Int32) (k : Nat) (v : Int32) : Nat → Int32 := fun i => if i = k then v else g i
noncomputable def prS (T : jm_T) (p : Nat) (u : Nat × (Nat → Int32)) : Nat × (Nat → Int32) := if u.1.testBit p = true then (match pqO T p u.1 with
  | none => (wo u.1 p, u.2)
  | some q => (wo (wo u.1 p) q, upf (upf u.2 p (nI q)) q (nI p))) else u
noncomputable def prN (T : jm_T) (n : Nat) : Nat × (Nat → Int32) := zf (prS T) n (2 ^ np T - 1, fun _ => -9)
def prI (T : jm_T) (n : Nat) (u : Nat × (Nat → Int32)) : Prop := u.1 < 2 ^ np T ∧ (∀ b, u.1.testBit b = true → n ≤ b ∧ b < np T ∧ u.2 b = -9)
theorem pow_64 {T : jm_T} (hc : ctT T) : 2 ^ np T ≤ 64 := np6 hc
theorem prI_S {T : jm_T} (hc : ctT T) {n : Nat} (hn : n < np T) {u : Nat × (Nat → Int32)} (h : prI T n u) : prI T (n + 1) (prS T n u) := by
  have h6 := hc.p.2
  obtain ⟨h1, h2⟩ := h
  have tb10 : ∀ s b, s < 2 ^ np T → s.testBit b = true → b < 10 := fun s b hs hb => by have := tb_lt hs hb; omega
  unfold prS
  by_cases c : u.1.testBit n = true
  · rw [if_pos c]
    have w1 := wo_le u.1 n
    have k1 : ∀ b, (wo u.1 n).testBit b = true → n + 1 ≤ b ∧ b < np T ∧ u.2 b = -9 := by
      intro b hb
      have hb10 := tb10 _ b (show wo u.1 n < 2 ^ np T by omega) hb
      rw [wo_tb (by omega) hb10] at hb
      simp at hb
      obtain ⟨q1, q2, q3⟩ := h2 b hb.1
      exact ⟨by omega, q2, q3⟩
    have hf := pqO_at T n u.1
    cases e : pqO T n u.1 with
    | none => exact ⟨by show wo u.1 n < _; omega, k1⟩
    | some q =>
      rw [e] at hf
      obtain ⟨f1, ⟨f2, f3, -⟩, -⟩ := hf
      have w2 := wo_le (wo u.1 n) q
      refine ⟨by show wo (wo u.1 n) q < _; omega, fun b hb => ?_⟩
      have hb10 := tb10 _ b (show wo (wo u.1 n) q < 2 ^ np T by omega) hb
      have hb' : (wo (wo u.1 n) q).testBit b = true := hb
      rw [wo_tb (by omega) hb10] at hb'
      simp at hb'
      obtain ⟨q1, q2, q3⟩ := k1 b hb'.1
      refine ⟨q1, q2, ?_⟩
      show upf (upf u.2 n (nI q)) q (nI n) b = -9
      unfold upf
      rw [if_neg hb'.2, if_neg (by omega)]
      exact q3
  · rw [if_neg c]
    refine ⟨h1, fun b hb => ?_⟩
    obtain ⟨q1, q2, q3⟩ := h2 b hb
    refine ⟨?_, q2, q3⟩
    have : ¬ b = n := fun e => c (by rw [← e]; exact hb)
    omega
theorem prN_I {T : jm_T} (hc : ctT T) : ∀ n, n ≤ np T → prI T n (prN T n) := by
  intro n
  induction n with
  | zero =>
    intro _
    have : 0 < 2 ^ np T := Nat.two_pow_pos _
    exact ⟨by show 2 ^ np T - 1 < 2 ^ np T; omega, fun b hb => ⟨by omega, tb_lt (show 2 ^ np T - 1 < 2 ^ np T by omega) hb, rfl⟩⟩
  | succ n ih =>
    intro hn
    exact prI_S hc (by omega) (ih (by omega))
theorem prI_end {T : jm_T} {u : Nat × (Nat → Int32)} (h : prI T (np T) u) : u.1 = 0 := by
  refine Nat.eq_of_testBit_eq (fun i => ?_)
  rw [Nat.zero_testBit]
  cases e : u.1.testBit i with
  | false => rfl
  | true =>
    have := h.2 i e
    omega
