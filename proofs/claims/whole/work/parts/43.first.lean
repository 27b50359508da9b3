/-- the place of the least title from x on -/
def ftP (T : jm_T) (x n : Nat) (r : Option Nat) : Prop := match r with
  | none => ∀ k, k < n → tt T k < x
  | some b => b < n ∧ x ≤ tt T b ∧ ∀ k, k < n → x ≤ tt T k → tt T b ≤ tt T k
noncomputable def ftN (T : jm_T) (x k : Nat) : Option Nat → Option Nat
  | none => if tt T k < x then none else some k
  | some b => if tt T k < x then some b else if tt T b ≤ tt T k then some b else some k
theorem ftN_n (T : jm_T) (x k : Nat) : ftN T x k none = if tt T k < x then none else some k := rfl
theorem ftN_s (T : jm_T) (x k b : Nat) : ftN T x k (some b) = if tt T k < x then some b else if tt T b ≤ tt T k then some b else some k := rfl
noncomputable def ftG (T : jm_T) (x n : Nat) : Option Nat := zf (ftN T x) n none
theorem ftN_P {T : jm_T} {x k : Nat} {r : Option Nat} (hP : ftP T x k r) : ftP T x (k + 1) (ftN T x k r) := by
  cases r with
  | none =>
    rw [ftN_n]
    by_cases q : tt T k < x
    · rw [if_pos q]
      intro j hj
      rcases Nat.lt_or_ge j k with z | z
      · exact hP j z
      · rw [show j = k by omega]; exact q
    · rw [if_neg q]
      refine ⟨by omega, by omega, fun j hj hx => ?_⟩
      rcases Nat.lt_or_ge j k with z | z
      · exact absurd (hP j z) (by omega)
      · rw [show j = k by omega]; exact Nat.le_refl _
  | some b =>
    obtain ⟨p1, p2, p3⟩ := hP
    rw [ftN_s]
    by_cases q : tt T k < x
    · rw [if_pos q]
      refine ⟨by omega, p2, fun j hj hx => ?_⟩
      rcases Nat.lt_or_ge j k with z | z
      · exact p3 j z hx
      · rw [show j = k by omega] at hx; omega
    · rw [if_neg q]
      by_cases z : tt T b ≤ tt T k
      · rw [if_pos z]
        refine ⟨by omega, p2, fun j hj hx => ?_⟩
        rcases Nat.lt_or_ge j k with y | y
        · exact p3 j y hx
        · rw [show j = k by omega]; exact z
      · rw [if_neg z]
        refine ⟨by omega, by omega, fun j hj hx => ?_⟩
        rcases Nat.lt_or_ge j k with y | y
        · have := p3 j y hx; omega
        · rw [show j = k by omega]; exact Nat.le_refl _
theorem ftG_P (T : jm_T) (x : Nat) : ∀ n, ftP T x n (ftG T x n) := by
  intro n
  induction n with
  | zero => intro j hj; omega
  | succ n ih => exact ftN_P ih
theorem T_firstTitleFrom {C : jm_M} {t w : Nat} (hw : wfT w (C t)) {x : Nat} (hx : x < 1000000) : sT_firstTitleFrom C t (nI x) = some (zb_o (ftG (C t) x (nb (C t)))) := by
  have h := hw.1.b
  unfold sT_firstTitleFrom
  refine zb_forB (fun k => (zb_o (ftG (C t) x k), nI k)) _ (nb (C t)) rfl ?_ ?_ (by omega) rfl
  · intro k hk
    have hP := ftG_P (C t) x k
    have e : ftG (C t) x (k + 1) = ftN (C t) x k (ftG (C t) x k) := rfl
    rw [e]
    generalize ftG (C t) x k = r at hP
    obtain ⟨k1, k2⟩ := hw.tx hk
    unfold sT_firstTitleFrom_L5
    rw [h.1, if_neg (zb_nle hk (by omega)), zb_rd (by omega) (by omega), zb_bs, k1]
    simp only [nI_1]
    by_cases q : tt (C t) k < x
    · rw [if_pos (by rw [zb_lt (by omega) (by omega)]; exact q)]
      cases r with
      | none => rw [ftN_n, if_pos q]
      | some b => rw [ftN_s, if_pos q]
    · rw [if_neg (by rw [zb_lt (by omega) (by omega)]; exact q)]
      cases r with
      | none =>
        rw [ftN_n, if_neg q]
        show (if (-9 : Int32) = -9 then _ else _) = _
        rw [if_pos rfl]
        rfl
      | some b =>
        obtain ⟨p1, p2, p3⟩ := hP
        obtain ⟨b1, b2⟩ := hw.tx (show b < nb (C t) by omega)
        simp only [zb_bs]
        rw [ftN_s, if_neg q, show zb_o (some b) = nI b from rfl, if_neg (zb_m9 (by omega)), zb_rd (by omega) (by omega), zb_bs, b1]
        by_cases z : tt (C t) b ≤ tt (C t) k
        · rw [if_pos (zb_yle z (by omega)), if_pos z]
          rfl
        · rw [if_neg (zb_nle (by omega) (by omega)), if_neg z]
          rfl
  · unfold sT_firstTitleFrom_L5
    rw [h.1, if_pos (zb_yle (Nat.le_refl _) (by omega))]
/-- the two ways of finding it are one -/
theorem ft_ff {w : Nat} {T : jm_T} (hw : wfT w T) {x : Nat} {r : Option Nat} (h : ftP T x (nb T) r) : zb_ff (fun s => zc (fun k => tt T k < tt T s) (nb T) = zc (fun k => tt T k < x) (nb T)) (nb T) r := by
  have inj : ∀ a b, a < nb T → b < nb T → tt T a = tt T b → a = b := by
    intro a b ha hb e
    exact hw.2.2.2.2.2 a b ha hb (by rw [(hw.tx ha).1, (hw.tx hb).1, e])
  cases r with
  | none =>
    intro s hs e
    have := zc_lt (P := fun k => tt T k < tt T s) (Q := fun k => tt T k < x) (nb T) (fun k hk _ => h k hk) hs (h s hs) (by omega)
    omega
  | some b =>
    obtain ⟨h1, h2, h3⟩ := h
    have e : zc (fun k => tt T k < tt T b) (nb T) = zc (fun k => tt T k < x) (nb T) := zc_congr _ (fun k hk => ⟨fun q => by
      rcases Nat.lt_or_ge (tt T k) x with z | z
      · exact z
      · have := h3 k hk z; omega, fun q => by omega⟩)
    refine ⟨h1, e, fun s hs q => ?_⟩
    rw [← e] at q
    rcases Nat.lt_trichotomy (tt T s) (tt T b) with z | z | z
    · have := zc_lt (P := fun k => tt T k < tt T s) (Q := fun k => tt T k < tt T b) (nb T) (fun k hk q => by omega) (show s < nb T by omega) z (by omega)
      omega
    · have := inj s b (by omega) h1 z
      omega
    · have := zc_lt (P := fun k => tt T k < tt T b) (Q := fun k => tt T k < tt T s) (nb T) (fun k hk q => by omega) h1 z (by omega)
      omega
theorem zc_next {w : Nat} {T : jm_T} (hw : wfT w T) {b : Nat} (hb : b < nb T) : zc (fun k => tt T k < tt T b + 1) (nb T) = zc (fun k => tt T k < tt T b) (nb T) + 1 := by
  have inj : ∀ a b, a < nb T → b < nb T → tt T a = tt T b → a = b := by
    intro a b ha hb e
    exact hw.2.2.2.2.2 a b ha hb (by rw [(hw.tx ha).1, (hw.tx hb).1, e])
  have key : ∀ n, n ≤ nb T → zc (fun k => tt T k < tt T b + 1) n = zc (fun k => tt T k < tt T b) n + (if b < n then 1 else 0) := by
    intro n
    induction n with
    | zero => intro _; rfl
    | succ n ih =>
      intro hn
      have i := ih (by omega)
      show (if tt T n < tt T b + 1 then zc (fun k => tt T k < tt T b + 1) n + 1 else zc (fun k => tt T k < tt T b + 1) n) = (if tt T n < tt T b then zc (fun k => tt T k < tt T b) n + 1 else zc (fun k => tt T k < tt T b) n) + _
      rw [i]
      by_cases q : b = n
      · subst q
        rw [if_pos (by omega), if_neg (by omega), if_neg (by omega), if_pos (by omega)]
      · have : ¬ tt T n = tt T b := fun e => q (inj n b (by omega) hb e).symm
        by_cases z : tt T n < tt T b
        · rw [if_pos (by omega), if_pos z]
          by_cases y : b < n
          · rw [if_pos y, if_pos (by omega)]
          · rw [if_neg y, if_neg (by omega)]
        · rw [if_neg (by omega), if_neg z]
          by_cases y : b < n
          · rw [if_pos y, if_pos (by omega)]
          · rw [if_neg y, if_neg (by omega)]
  rw [key _ (Nat.le_refl _), if_pos hb]
