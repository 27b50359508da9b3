/-! borrowing -/
noncomputable def bwW (T : jm_T) (p q k : Nat) : Option Nat := Classical.choose (zb_ff_ex (fun n => ¬ ts_over (wkN n (pt T 9 k (nI p))) p q < 0) 61)
theorem bwW_at (T : jm_T) (p q k : Nat) : downIn (pt T 9 k (nI p)) p q 61 (bwW T p q k) := Classical.choose_spec (zb_ff_ex (fun n => ¬ ts_over (wkN n (pt T 9 k (nI p))) p q < 0) 61)
def bwM : Option (Nat × Nat) → Nat
  | none => 61
  | some u => u.2
noncomputable def bwB : Option (Nat × Nat) → Int32
  | none => -9
  | some u => nI u.1
noncomputable def bwX : Option (Nat × Nat) → Int32
  | none => -9
  | some u => nI u.2
def bwN (o : Option (Nat × Nat)) (k : Nat) : Option Nat → Option (Nat × Nat)
  | none => o
  | some v => if v < bwM o then some (k, v) else o
noncomputable def bwF (T : jm_T) (p q k : Nat) (o : Option (Nat × Nat)) : Option (Nat × Nat) := if ts_on T p q k then o else bwN o k (bwW T p q k)
noncomputable def bwS (T : jm_T) (p q n : Nat) : Option (Nat × Nat) := zf (bwF T p q) n none
theorem bwS_in (T : jm_T) (p q : Nat) : ∀ n, ∀ u, bwS T p q n = some u → u.1 < n ∧ u.2 < 61 := by
  intro n
  induction n with
  | zero => intro u h; cases h
  | succ n ih =>
    intro u h
    have e : bwS T p q (n + 1) = bwF T p q n (bwS T p q n) := rfl
    rw [e] at h
    unfold bwF at h
    by_cases g : ts_on T p q n
    · rw [if_pos g] at h
      have := ih u h
      omega
    · rw [if_neg g] at h
      have w := bwW_at T p q n
      generalize bwW T p q n = r at h w
      cases r with
      | none =>
        have := ih u h
        omega
      | some v =>
        have hv := downIn_lt w
        unfold bwN at h
        simp only [] at h
        by_cases g2 : v < bwM (bwS T p q n)
        · rw [if_pos g2] at h
          injection h with h
          subst h
          exact ⟨Nat.lt_succ_self _, hv⟩
        · rw [if_neg g2] at h
          have := ih u h
          omega
theorem bwM_in (T : jm_T) (p q n : Nat) : bwM (bwS T p q n) ≤ 61 := by
  have h := bwS_in T p q n
  cases e : bwS T p q n with
  | none => exact Nat.le_refl _
  | some u =>
    have := h u e
    show u.2 ≤ 61
    omega
def dcut (m : Nat) : Option Nat → Option Nat
  | none => none
  | some v => if v < m then some v else none
theorem downIn_cut {T : jm_T} {p q m : Nat} (hm : m ≤ 61) {r : Option Nat} (h : downIn T p q 61 r) : downIn T p q m (dcut m r) := by
  cases r with
  | none => exact fun j hj => h j (by omega)
  | some v =>
    obtain ⟨h1, h2, h3⟩ := h
    show downIn T p q m (if v < m then some v else none)
    by_cases g : v < m
    · rw [if_pos g]; exact ⟨g, h2, h3⟩
    · rw [if_neg g]; exact fun j hj => h3 j (by omega)
section
variable {C M : jm_M}
theorem F_seekLoan (h : Inv C M) {p q : Nat} (hp : p < np (C 1)) (hq : q < np (C 1)) : ∃ C', sF_seekLoan C 1 (nI p) (nI q) = some C' ∧ (∀ t, ¬ t = 4 → ¬ t = 15 → C' t = C t) ∧ ZT (C' 4) ∧ C' 15 0 3 = bwB (bwS (C 1) p q (nb (C 1))) ∧ C' 15 0 4 = bwX (bwS (C 1) p q (nb (C 1))) := by
  obtain ⟨hw, hr, hd⟩ := h.now
  have h6 := hw.1.p.2
  have h10 := hw.1.b
  have z1 := h.zt (t := 1) (by omega) (by omega)
  have z4 := h.zt (t := 4) (by omega) (by omega)
  unfold sF_seekLoan
  rw [wf_up, zb_bs, wf_up, zb_bs]
  obtain ⟨e, e1, e2⟩ := zb_ch (f := sF_seekLoan_L19 1 (nI p) (nI q)) (s := (60, 0, jm_up (jm_up C 15 0 3 (-9)) 15 0 4 (-9))) (fun (k : Nat) (u : Int32 × Int32 × jm_M) => ∃ C' : jm_M, u = (nI (bwM (bwS (C 1) p q k)) - 1, nI k, C') ∧ (∀ t, ¬ t = 4 → ¬ t = 15 → C' t = C t) ∧ ZT (C' 4) ∧ C' 15 0 3 = bwB (bwS (C 1) p q k) ∧ C' 15 0 4 = bwX (bwS (C 1) p q k))
    (fun C' => (∀ t, ¬ t = 4 → ¬ t = 15 → C' t = C t) ∧ ZT (C' 4) ∧ C' 15 0 3 = bwB (bwS (C 1) p q (nb (C 1))) ∧ C' 15 0 4 = bwX (bwS (C 1) p q (nb (C 1)))) (nb (C 1)) (by omega) ⟨jm_up (jm_up C 15 0 3 (-9)) 15 0 4 (-9), by rw [show (60 : Int32) = nI (bwM (bwS (C 1) p q 0)) - 1 by (rw [show bwS (C 1) p q 0 = none from rfl]; show (60 : Int32) = nI 61 - 1; decide)]; rfl, fun t h4 h15 => by funext a b; rw [zb_up_n (by omega), zb_up_n (by omega)], by
      have e : jm_up (jm_up C 15 0 3 (-9)) 15 0 4 (-9) 4 = C 4 := by funext a b; rw [zb_up_n (by omega), zb_up_n (by omega)]
      rw [e]; exact z4, by rw [zb_up_n (by omega), zb_up_s]; rfl, by rw [zb_up_s]; rfl⟩ (by
    intro k hk u hu
    obtain ⟨C', rfl, a1, a2, a3, a4⟩ := hu
    left
    have c1 := a1 1 (by omega) (by omega)
    have e : bwS (C 1) p q (k + 1) = bwF (C 1) p q k (bwS (C 1) p q k) := rfl
    have hm := bwM_in (C 1) p q k
    rw [e]
    unfold sF_seekLoan_L19
    simp only []
    rw [c1, h10.1, if_neg (zb_nle hk (by omega)), T_isOnPan (by omega), zb_bs, c1]
    generalize bwS (C 1) p q k = o at a3 a4 hm
    unfold bwF
    by_cases g : ts_on (C 1) p q k
    · rw [if_pos g, if_pos g, zb_i10, nI_1]
      exact ⟨_, rfl, C', rfl, a1, a2, a3, a4⟩
    · rw [if_neg g, if_neg g, zb_i00, F_think (by omega) a2 (by rw [c1]; exact z1), zb_bs, c1, wa_st (by omega) (by omega), zb_bs, stT_s, stT_2]
      have wT : wfT 999 (pt (C 1) 9 k (nI p)) := wf_hold hw (Or.inr ⟨p, hp, rfl⟩)
      have zT : ∀ n, ZT (wkN n (pt (C 1) 9 k (nI p))) := fun n => ZT_wkN (ZT_pt z1 (Or.inr (Or.inr ⟨by omega, by omega⟩))) n wT.1
      have w := bwW_at (C 1) p q k
      generalize bwW (C 1) p q k = r at w
      obtain ⟨n, hn, e4⟩ := F_weeksTillDown (C := stT C' 4 (pt (C 1) 9 k (nI p))) (p := p) (q := q) (m := bwM o) (by rw [stT_s]; exact wT.1) (by omega) (by omega) (by omega) rfl (by rw [stT_s]; exact downIn_cut hm w)
      rw [e4, zb_bs, stT_s, stT_2]
      simp only []
      have big : ∀ (t : Nat), ¬ t = 4 → ¬ t = 15 → stT C' 4 (wkN n (pt (C 1) 9 k (nI p))) t = C t := fun t h4 h15 => by rw [stT_n h4, a1 t h4 h15]
      cases r with
      | none =>
        rw [if_pos (show zb_o (dcut (bwM o) none) = -9 from rfl), nI_1]
        exact ⟨_, rfl, _, rfl, big, by rw [stT_s]; exact zT n, by rw [stT_n (by omega)]; exact a3, by rw [stT_n (by omega)]; exact a4⟩
      | some v =>
        have hv := downIn_lt w
        unfold bwN
        simp only []
        by_cases g2 : v < bwM o
        · rw [if_pos g2, show zb_o (dcut (bwM o) (some v)) = nI v by (unfold dcut; simp only []; rw [if_pos g2]; rfl), if_neg (zb_m9 (by omega)), wf_up, zb_bs, wf_up, zb_bs, zb_bs, nI_1]
          refine ⟨_, rfl, _, rfl, fun t h4 h15 => ?_, ?_, ?_, ?_⟩
          · funext a b
            rw [zb_up_n (by omega), zb_up_n (by omega)]
            rw [big t h4 h15]
          · have e : ∀ {x y : Int32}, jm_up (jm_up (stT C' 4 (wkN n (pt (C 1) 9 k (nI p)))) 15 0 3 x) 15 0 4 y 4 = wkN n (pt (C 1) 9 k (nI p)) := by
              intro x y
              funext a b
              rw [zb_up_n (by omega), zb_up_n (by omega), stT_s]
            rw [e]
            exact zT n
          · rw [zb_up_n (by omega), zb_up_s]; rfl
          · rw [zb_up_s]; rfl
        · rw [if_neg g2, show zb_o (dcut (bwM o) (some v)) = -9 by (unfold dcut; simp only []; rw [if_neg g2]; rfl), if_pos rfl, nI_1]
          exact ⟨_, rfl, _, rfl, big, by rw [stT_s]; exact zT n, by rw [stT_n (by omega)]; exact a3, by rw [stT_n (by omega)]; exact a4⟩) (by
    intro u hu
    obtain ⟨C', rfl, a1, a2, a3, a4⟩ := hu
    have c1 := a1 1 (by omega) (by omega)
    unfold sF_seekLoan_L19
    simp only []
    rw [c1, h10.1, if_pos (zb_yle (Nat.le_refl _) (by omega))]
    exact ⟨_, rfl, a1, a2, a3, a4⟩)
  rw [e1, zb_bs]
  exact ⟨_, rfl, e2⟩
theorem M_borrowLoop (h : Inv C M) {p q : Nat} (hp : p < np (C 1)) (hq : q < np (C 1)) : ∃ e, jm_loop (sM_borrow_L53 (nI p) (nI q)) jm_N ((-9), (-9), 0, M) = some e ∧ e.1 = bwB (bwS (C 1) p q (nb (C 1))) ∧ e.2.1 = bwX (bwS (C 1) p q (nb (C 1))) ∧ sameM M e.2.2 := by
  obtain ⟨hw, hr, hd⟩ := h.now
  have h10 := hw.1.b
  refine zb_ch (fun (k : Nat) (u : Int32 × Int32 × Int32 × jm_M) => ∃ M' : jm_M, u = (bwB (bwS (C 1) p q k), bwX (bwS (C 1) p q k), nI k, M') ∧ sameM M M') _ (nb (C 1)) (by omega) ⟨M, rfl, sameM.rf hd⟩ ?_ ?_
  · intro k hk u hu
    obtain ⟨M', rfl, sm⟩ := hu
    left
    have hr' := TR_same hr hw.1 sm
    have hd' := sm.2.2.2
    have e : bwS (C 1) p q (k + 1) = bwF (C 1) p q k (bwS (C 1) p q k) := rfl
    have hin := bwS_in (C 1) p q k
    rw [e]
    unfold sM_borrow_L53
    simp only []
    rw [hr'.1.2.1, h10.1, if_neg (zb_nle hk (by omega)), M_isHeld hr' hw.1 hk, zb_bs]
    generalize bwS (C 1) p q k = o at hin
    unfold bwF
    by_cases g : ts_on (C 1) p q k
    · rw [if_pos g, if_pos g, zb_i10, nI_1]
      exact ⟨_, rfl, M', rfl, sm⟩
    · obtain ⟨N1, n1, d1⟩ := M_minds M'
      have hrn := TR_MD hr' hw.1 d1
      have wT : wfT 999 (pt (C 1) 9 k (nI p)) := wf_hold hw (Or.inr ⟨p, hp, rfl⟩)
      have hrt : TR (pt (C 1) 9 k (nI p)) (jm_up N1 0 8 k (nI p) 0) := TR_upJ hrn (by omega)
      have w := bwW_at (C 1) p q k
      generalize bwW (C 1) p q k = r at w
      obtain ⟨N2, n2, f2⟩ := M_whenFrom wT (by omega) hrt (by rw [zb_up_n (by omega), d1.d]; exact hd') hp hq w
      obtain ⟨N3, n3, s3⟩ := M_forgets d1 (mF.tr (mF.up (Or.inl (by simp))) f2.goes)
      rw [if_neg g, if_neg g, zb_i00, n1, zb_bs, zb_wa (by omega) (by omega), zb_bs, n2, zb_bs, n3, zb_bs]
      cases r with
      | none =>
        rw [show (zb_o none, N2).1 = -9 from rfl, if_pos (by decide), nI_1]
        exact ⟨_, rfl, _, rfl, sm.tr s3⟩
      | some v =>
        have hv := downIn_lt w
        rw [show zb_o (some v) = nI v from rfl, if_neg (zb_nd (by omega)), nI_1]
        unfold bwN
        simp only []
        cases o with
        | none =>
          rw [show bwB none = -9 from rfl, if_pos (by decide), if_pos (show v < bwM none from hv)]
          exact ⟨_, rfl, _, rfl, sm.tr s3⟩
        | some u =>
          have hu := hin u rfl
          rw [show bwB (some u) = nI u.1 from rfl, show bwX (some u) = nI u.2 from rfl, show bwM (some u) = u.2 from rfl, if_neg (zb_nd (by omega))]
          by_cases g2 : v < u.2
          · rw [if_pos g2, if_pos (by rw [zb_lt (by omega) (by omega)]; exact g2)]
            exact ⟨_, rfl, _, rfl, sm.tr s3⟩
          · rw [if_neg g2, if_neg (by rw [zb_lt (by omega) (by omega)]; exact g2)]
            exact ⟨_, rfl, _, rfl, sm.tr s3⟩
  · intro u hu
    obtain ⟨M', rfl, sm⟩ := hu
    have hr' := TR_same hr hw.1 sm
    unfold sM_borrow_L53
    simp only []
    rw [hr'.1.2.1, h10.1, if_pos (zb_yle (Nat.le_refl _) (by omega))]
    exact ⟨_, rfl, rfl, rfl, sm⟩
theorem st_borrow (h : Inv C M) (x y z : Int32) : SC (sW_borrow C x y z) (sM_borrow M x y z) := by
  obtain ⟨hw, hr, hd⟩ := h.now
  unfold sW_borrow sM_borrow
  rw [W_areTwo hw.1, M_areTwo hw.1 hr, W_neither, M_isIn01]
  simp only [zb_bs]
  by_cases h2 : ar2 (C 1) x y
  · obtain ⟨p, q, hp, hq, -, rfl, rfl⟩ := is2 hw.1 h2
    rw [if_pos h2, zb_i10, zb_i10]
    by_cases h5 : z = 0 ∨ z = 1
    · rw [if_pos h5, if_pos h5, zb_i00, zb_i10, zb_bs, if_pos rfl]
      obtain ⟨C', c1, c2, c3, c4, c5⟩ := F_seekLoan h hp hq
      obtain ⟨e, m1, m2, m3, m4⟩ := M_borrowLoop h hp hq
      have hI := Inv_same h (sameC_415 h c2 c3) m4
      rw [c1, zb_bs, m1, zb_bs, m2, m3, c4, c5]
      by_cases g : z = 0
      · rw [if_pos g, if_pos g]
        exact SC.mk hI
      · rw [if_neg g, if_neg g]
        exact SC.mk hI
    · rw [if_neg h5, if_neg h5, zb_i10, zb_i00, zb_bs, if_neg (by decide), W_refuse C (k := 2) rfl (by omega), M_no M (k := 2) rfl (by omega)]
      simp only [zb_bs]
      exact SC.mk (Inv_ref h (by omega))
  · rw [if_neg h2, zb_i00, zb_i00, zb_bs, if_neg (by decide), W_refuse C (k := 1) rfl (by omega), M_no M (k := 1) rfl (by omega)]
    simp only [zb_bs]
    exact SC.mk (Inv_ref h (by omega))
end
