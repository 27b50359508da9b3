/-! what a town must be stays, when weeks go by -/
theorem np_e {T T' : jm_T} (h : T' 0 0 = T 0 0) : np T' = np T := by unfold np; rw [h]
theorem nb_e {T T' : jm_T} (h : T' 0 4 = T 0 4) : nb T' = nb T := by unfold nb; rw [h]
theorem ns_e {T T' : jm_T} (h : T' 0 12 = T 0 12) : ns T' = ns T := by unfold ns; rw [h]
theorem pl_e {T T' : jm_T} (h : T' 0 0 = T 0 0) {x : Int32} : pl T' x = pl T x := by unfold pl; rw [np_e h]
theorem wf_of {w w' : Nat} {T T' : jm_T} (h : wfT w T) (h0 : T' 0 0 = T 0 0) (h4 : T' 0 4 = T 0 4) (h12 : T' 0 12 = T 0 12) (h11 : zb_in (T' 0 11) w')
    (hp : ∀ p, p < np T → zb_in (T' 2 p) 99 ∧ zb_in (T' 3 p) 9 ∧ zb_in (T' 4 p) 99)
    (hb : ∀ b, b < nb T → zb_in (T' 6 b) 7 ∧ zb_in (T' 7 b) 9 ∧ pl T (T' 8 b) ∧ pl T (T' 9 b) ∧ zb_in (T' 10 b) (2 ^ np T - 1) ∧ T' 11 b = T 11 b)
    (hs : T' 14 = T 14 ∧ T' 15 = T 15) : wfT w' T' := by
  refine ⟨ct_j h.1 h0 h4 h12, h11, ?_, ?_, ?_, ?_⟩
  · rw [np_e h0]; exact hp
  · rw [nb_e h4, np_e h0]
    intro b hb2
    obtain ⟨a1, a2, a3, a4, a5, a6⟩ := hb b hb2
    rw [pl_e h0, pl_e h0, a6]
    exact ⟨a1, a2, a3, a4, a5, (h.2.2.2.1 b hb2).2.2.2.2.2⟩
  · rw [ns_e h12, hs.1, hs.2]; exact h.2.2.2.2.1
  · rw [nb_e h4]
    intro a b ha hb2 e
    rw [(hb a ha).2.2.2.2.2, (hb b hb2).2.2.2.2.2] at e
    exact h.2.2.2.2.2 a b ha hb2 e
theorem wf_wkT {w : Nat} {T : jm_T} (h : wfT w T) : wfT (w + 1) (wkT T) := by
  unfold wkT
  refine wf_of h (pt_k (by omega)) (pt_k (by omega)) (pt_k (by omega)) ?_ ?_ ?_ ?_
  · rw [pt_s]; exact zb_in_add h.2.1 ⟨1, by omega, rfl⟩
  · rw [pt_j (by omega), pt_j (by omega), pt_j (by omega)]; exact h.2.2.1
  · rw [pt_j (by omega), pt_j (by omega), pt_j (by omega), pt_j (by omega), pt_j (by omega), pt_j (by omega)]
    intro b hb
    obtain ⟨a1, a2, a3, a4, a5, a6⟩ := h.2.2.2.1 b hb
    exact ⟨a1, a2, a3, a4, a5, rfl⟩
  · exact ⟨pt_j (by omega), pt_j (by omega)⟩
theorem wf_eaN {w : Nat} {T : jm_T} (h : wfT w T) {p : Nat} (hp : p < np T) : wfT w (eaN p T) := by
  unfold eaN
  split
  · refine wf_of h (by rw [pt_j (by omega)]) (by rw [pt_j (by omega)]) (by rw [pt_j (by omega)]) (by rw [pt_j (by omega)]; exact h.2.1) ?_ ?_ ?_
    · rw [pt_j (show ¬ 3 = 2 by omega), pt_j (show ¬ 4 = 2 by omega)]
      intro q hq
      obtain ⟨a1, a2, a3⟩ := h.2.2.1 q hq
      refine ⟨?_, a2, a3⟩
      by_cases e : q = p
      · subst e
        rw [pt_s]
        obtain ⟨x, hx, ex⟩ := a1
        rw [ex, nI_1, show (99 : Int32) = nI 99 from rfl, zb_minI (by omega) (by omega)]
        exact ⟨_, by omega, rfl⟩
      · rw [pt_k e]; exact a1
    · rw [pt_j (by omega), pt_j (by omega), pt_j (by omega), pt_j (by omega), pt_j (by omega), pt_j (by omega)]
      intro b hb
      obtain ⟨a1, a2, a3, a4, a5, a6⟩ := h.2.2.2.1 b hb
      exact ⟨a1, a2, a3, a4, a5, rfl⟩
    · exact ⟨pt_j (by omega), pt_j (by omega)⟩
  · exact h
theorem zb_or : ∀ r, r < 64 → ∀ p, p < 6 → nI r ||| ((1 : Int32) <<< (nI p &&& 31)) = nI (r ||| 2 ^ p) := by decide +kernel
theorem zb_rd01 : ∀ r, r < 64 → ∀ p, p < 6 → (nI r >>> (nI p &&& 31)) &&& 1 = 0 ∨ (nI r >>> (nI p &&& 31)) &&& 1 = 1 := by decide +kernel
theorem wf_rdB {w : Nat} {T : jm_T} (h : wfT w T) {p c : Nat} (hp : p < np T) (hc : c < nb T) : wfT w (rdB T p c) := by
  unfold rdB
  have h6 := h.1.p.2
  refine wf_of h (by rw [pt_j (by omega), pt_j (by omega)]) (by rw [pt_j (by omega), pt_j (by omega)]) (by rw [pt_j (by omega), pt_j (by omega)]) (by rw [pt_j (by omega), pt_j (by omega)]; exact h.2.1) ?_ ?_ ?_
  · rw [pt_j (by omega), pt_j (by omega), pt_j (by omega), pt_j (by omega), pt_j (by omega), pt_j (by omega)]; exact h.2.2.1
  · rw [pt_j (show ¬ 6 = 9 by omega), pt_j (show ¬ 6 = 10 by omega), pt_j (show ¬ 7 = 9 by omega), pt_j (show ¬ 7 = 10 by omega), pt_j (show ¬ 8 = 9 by omega), pt_j (show ¬ 8 = 10 by omega), pt_j (show ¬ 10 = 9 by omega), pt_j (show ¬ 11 = 9 by omega), pt_j (show ¬ 11 = 10 by omega)]
    intro b hb
    obtain ⟨a1, a2, a3, a4, a5, a6⟩ := h.2.2.2.1 b hb
    refine ⟨a1, a2, a3, ?_, ?_, rfl⟩
    · by_cases e : b = c
      · subst e; rw [pt_s]; exact a3
      · rw [pt_k e, pt_j (by omega)]; exact a4
    · by_cases e : b = c
      · subst e
        rw [pt_s]
        obtain ⟨r, h1, h2, e2⟩ := h.rd hb
        rw [e2, zb_or r h1 p (by omega)]
        have h3 : 2 ^ p < 2 ^ np T := Nat.pow_lt_pow_right (by omega) hp
        have := Nat.or_lt_two_pow h2 h3
        exact ⟨_, by omega, rfl⟩
      · rw [pt_k e]; exact a5
  · exact ⟨by rw [pt_j (by omega), pt_j (by omega)], by rw [pt_j (by omega), pt_j (by omega)]⟩
theorem wf_rdN {w : Nat} {T : jm_T} (h : wfT w T) {p : Nat} (hp : p < np T) : wfT w (rdN p T) := by
  unfold rdN
  have hl := nx_lt T p (nb T)
  generalize nx T p (nb T) = o at hl ⊢
  cases o with
  | none => exact h
  | some b => exact wf_rdB h hp (hl b rfl)
theorem wf_goP {w : Nat} {T : jm_T} (r : Bool) (h : wfT w T) {p : Nat} (hp : p < np T) : wfT w (goP r p T) := by
  unfold goP
  have h1 := wf_eaN h hp
  split
  · exact wf_rdN h1 (by rw [np_e (by rw [eaN_0 _ _ _ (by omega)])]; exact hp)
  · exact h1
theorem wf_goPs {w : Nat} {T : jm_T} (r : Bool) (h : wfT w T) : ∀ n, n ≤ np T → wfT w (zf (goP r) n T) := by
  intro n
  induction n with
  | zero => intro _; exact h
  | succ n ih =>
    intro hn
    rw [zf]
    refine wf_goP r (ih (by omega)) ?_
    rw [np_e (by rw [goPs_j _ _ _ 0 (by omega)])]
    omega
theorem np_wkT (T : jm_T) : np (wkT T) = np T := np_e (by unfold wkT; exact pt_k (by omega))
theorem wf_wkS {w : Nat} {T : jm_T} (r : Bool) (h : wfT w T) : wfT (w + 1) (wkS r T) := by
  unfold wkS
  exact wf_goPs r (wf_wkT h) _ (by rw [np_wkT]; exact Nat.le_refl _)
theorem wf_wkN {w : Nat} {T : jm_T} (n : Nat) (h : wfT w T) : wfT (w + n) (wkN n T) := by
  induction n with
  | zero => exact h
  | succ n ih => exact wf_wkS true ih
theorem np_wkS (r : Bool) (T : jm_T) : np (wkS r T) = np T := np_e (by rw [wkS_0, pt_k (by omega)])
theorem nb_wkS (r : Bool) (T : jm_T) : nb (wkS r T) = nb T := nb_e (by rw [wkS_0, pt_k (by omega)])
theorem np_wkN (n : Nat) (T : jm_T) : np (wkN n T) = np T := by
  induction n with
  | zero => rfl
  | succ n ih => exact (np_wkS true _).trans ih
theorem nb_wkN (n : Nat) (T : jm_T) : nb (wkN n T) = nb T := by
  induction n with
  | zero => rfl
  | succ n ih => exact (nb_wkS true _).trans ih
theorem ZT_goP {T : jm_T} (h : ZT T) (r : Bool) {p : Nat} (hp : p < 6) (hb : nb T ≤ 10) : ZT (goP r p T) := by
  have h1 : ZT (eaN p T) := by
    unfold eaN
    split
    · exact ZT_pt h (Or.inr (Or.inl ⟨Or.inl rfl, hp⟩))
    · exact h
  unfold goP
  split
  · unfold rdN
    have hl := nx_lt (eaN p T) p (nb (eaN p T))
    rw [nb_e (T := T) (by rw [eaN_0 _ _ _ (by omega)])] at hl ⊢
    generalize nx (eaN p T) p (nb T) = o at hl ⊢
    cases o with
    | none => exact h1
    | some b =>
      have := hl b rfl
      exact ZT_pt (ZT_pt h1 (Or.inr (Or.inr ⟨by omega, by omega⟩))) (Or.inr (Or.inr ⟨by omega, by omega⟩))
  · exact h1
theorem ZT_goPs {T : jm_T} (h : ZT T) (r : Bool) (hb : nb T ≤ 10) : ∀ n, n ≤ 6 → ZT (zf (goP r) n T) := by
  intro n
  induction n with
  | zero => intro _; exact h
  | succ n ih =>
    intro hn
    rw [zf]
    exact ZT_goP (ih (by omega)) r (by omega) (by rw [nb_e (T := T) (by rw [goPs_j _ _ _ 0 (by omega)])]; exact hb)
theorem ZT_wkS {T : jm_T} (h : ZT T) (r : Bool) (hc : ctT T) : ZT (wkS r T) := by
  unfold wkS
  refine ZT_goPs (ZT_pt h (Or.inl ⟨rfl, by omega⟩)) r ?_ _ hc.p.2
  have e : nb (wkT T) = nb T := nb_e (by unfold wkT; exact pt_k (by omega))
  show nb (wkT T) ≤ 10
  rw [e]
  exact hc.b.2
theorem ZT_wkN {T : jm_T} (h : ZT T) (n : Nat) (hc : ctT T) : ZT (wkN n T) := by
  induction n with
  | zero => exact h
  | succ n ih => exact ZT_wkS ih true (wkN_ct n hc)
