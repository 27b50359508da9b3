theorem tl1 {c : Nat} (hc : c < 26) : tl (nI ((c + 1) * 19683)) := by
  refine ⟨c + 1, 0, 0, 0, ⟨by omega, by omega, by omega, by omega, by omega, fun _ => rfl, fun _ => rfl⟩, ?_⟩
  unfold tl_v
  rw [show (c + 1) * 19683 = (((c + 1) * 27 + 0) * 27 + 0) * 27 + 0 by omega]
theorem ti_let {T : jm_T} {M : jm_M} {b c : Nat} (ht : ti T (M 0) b) (hc : c < 26) : (T 11 b = nI ((c + 1) * 19683)) = (M 0 10 b = 1 ∧ M 0 11 (4 * b) = nI c) := by
  obtain ⟨e1, e2⟩ := zb_in_N ht.1 (by omega)
  have l1 := ht.2.1
  obtain ⟨x1, x2⟩ := zb_in_N (ht.2.2.1 0 (by omega)) (by omega)
  rw [Nat.add_zero] at x1 x2
  obtain ⟨a1, a2, a3, a4, a5, a6, a7⟩ := ti_d ht
  have d0 : dg (M 0) b 0 = zb_N (M 0 11 (4 * b)) + 1 := by unfold dg; rw [if_pos (by omega)]; rfl
  have d1 : (dg (M 0) b 1 = 0) = (zb_N (M 0 10 b) = 1) := by
    unfold dg
    by_cases q : 1 < zb_N (M 0 10 b)
    · rw [if_pos q]; exact propext (by omega)
    · rw [if_neg q]; exact propext ⟨fun _ => by omega, fun _ => rfl⟩
  have h1 := tl_lt (ti_d ht)
  rw [ht.2.2.2, zb_eq (by omega) (by omega)]
  rw [e1, x1, show (1 : Int32) = nI 1 from rfl, zb_eq (by omega) (by omega), zb_eq (by omega) (by omega), ← d1]
  unfold tl_v
  rw [d0] at a1 a2 ⊢
  generalize dg (M 0) b 1 = y1 at *
  generalize dg (M 0) b 2 = y2 at *
  generalize dg (M 0) b 3 = y3 at *
  exact propext ⟨fun e => by omega, fun e => by
    have := a6 e.1
    have := a7 this
    omega⟩
theorem T_bookWithTitle {C : jm_M} {t : Nat} (hc : ctT (C t)) {x : Int32} {r : Option Nat} (hf : zb_ff (fun b => C t 11 b = x) (nb (C t)) r) : sT_bookWithTitle C t x = some (zb_o r) := by
  have h := hc.b
  have stp : ∀ k, k < nb (C t) → sT_bookWithTitle_L2 C t x (nI k) = if C t 11 k = x then some (.inr (.inr (nI k))) else some (.inl (nI (k + 1))) := by
    intro k hk
    unfold sT_bookWithTitle_L2
    rw [h.1, if_neg (zb_nle hk (by omega)), zb_rd (by omega) (by omega), zb_bs, nI_1]
  unfold sT_bookWithTitle
  cases r with
  | none =>
    refine zb_forB (fun k => nI k) (.inl ()) (nb (C t)) rfl (fun k hk => ?_) ?_ (by omega) rfl
    · rw [stp k hk, if_neg (hf k hk)]
    · unfold sT_bookWithTitle_L2
      rw [h.1, if_pos (zb_yle (Nat.le_refl _) (by omega))]
  | some k =>
    obtain ⟨hk, h2, h3⟩ := hf
    refine zb_forB (fun k => nI k) (.inr (nI k)) k rfl (fun j hj => ?_) ?_ (by omega) rfl
    · rw [stp j (by omega), if_neg (h3 j hj)]
    · rw [stp k hk, if_pos h2]
theorem M_isLetterTitle {T : jm_T} {M : jm_M} (hc : ctT T) (hr : TR T (M 0)) {c : Nat} (hc26 : c < 26) {r : Option Nat} (hf : zb_ff (fun b => T 11 b = nI ((c + 1) * 19683)) (nb T) r) : sM_isLetterTitle M (nI c) = some (match r with | none => 0 | some _ => 1) := by
  have h := hc.b
  have stp : ∀ k, k < nb T → sM_isLetterTitle_L2 M (nI c) (nI k) = if T 11 k = nI ((c + 1) * 19683) then some (.inr (.inr 1)) else some (.inl (nI (k + 1))) := by
    intro k hk
    have e := ti_let (hr.2.2.1 k hk).2.2.2.2.2 hc26
    unfold sM_isLetterTitle_L2
    rw [hr.1.2.1, h.1, if_neg (zb_nle hk (by omega)), zb_rd (by omega) (by omega), zb_bs, zb_4', zb_rd (by omega) (by omega), zb_bs, nI_1]
    by_cases q1 : M 0 10 k = 1
    · by_cases q2 : M 0 11 (4 * k) = nI c
      · rw [if_pos q1, if_pos q2, if_pos (by rw [e]; exact ⟨q1, q2⟩)]
      · rw [if_pos q1, if_neg q2, if_neg (by rw [e]; exact fun f => q2 f.2)]
    · rw [if_neg q1, if_neg (by rw [e]; exact fun f => q1 f.1)]
  unfold sM_isLetterTitle
  cases r with
  | none =>
    refine zb_forB (fun k => nI k) (.inl ()) (nb T) rfl (fun k hk => ?_) ?_ (by omega) rfl
    · rw [stp k hk, if_neg (hf k hk)]
    · unfold sM_isLetterTitle_L2
      rw [hr.1.2.1, h.1, if_pos (zb_yle (Nat.le_refl _) (by omega))]
  | some k =>
    obtain ⟨hk, h2, h3⟩ := hf
    refine zb_forB (fun k => nI k) (.inr 1) k rfl (fun j hj => ?_) ?_ (by omega) rfl
    · rw [stp j (by omega), if_neg (h3 j hj)]
    · rw [stp k hk, if_pos h2]
