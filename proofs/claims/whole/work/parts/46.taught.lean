/-! loops whose memory is only known to exist -/
theorem zb_chA {σ ε : Type} {f : σ → Option (σ ⊕ ε)} (I : Nat → σ → Prop) (J : ε → Prop) (n : Nat) (hs : ∀ k, k < n → ∀ s, I k s → (∃ s', f s = some (.inl s') ∧ I (k + 1) s') ∨ ∃ e, f s = some (.inr e) ∧ J e) (he : ∀ s, I n s → ∃ e, f s = some (.inr e) ∧ J e) : ∀ (d a N : Nat), a + d = n → ∀ s, I a s → d < N → ∃ e, jm_loop f N s = some e ∧ J e := by
  intro d
  induction d with
  | zero =>
    intro a N ha s h hN
    cases N with
    | zero => omega
    | succ N =>
      have : a = n := by omega
      subst this
      obtain ⟨e, e1, e2⟩ := he s h
      exact ⟨e, by rw [jm_loop, e1], e2⟩
  | succ d ih =>
    intro a N ha s h hN
    cases N with
    | zero => omega
    | succ N =>
      rcases hs a (by omega) s h with ⟨s', e1, e2⟩ | ⟨e, e1, e2⟩
      · obtain ⟨e, q1, q2⟩ := ih (a + 1) N (by omega) s' e2 (by omega)
        exact ⟨e, by rw [jm_loop, e1]; exact q1, q2⟩
      · exact ⟨e, by rw [jm_loop, e1], e2⟩
theorem zb_ch {σ ε : Type} {f : σ → Option (σ ⊕ ε)} {s : σ} (I : Nat → σ → Prop) (J : ε → Prop) (n : Nat) (hn : n < 1000000) (h0 : I 0 s) (hs : ∀ k, k < n → ∀ s, I k s → (∃ s', f s = some (.inl s') ∧ I (k + 1) s') ∨ ∃ e, f s = some (.inr e) ∧ J e) (he : ∀ s, I n s → ∃ e, f s = some (.inr e) ∧ J e) : ∃ e, jm_loop f jm_N s = some e ∧ J e :=
  zb_chA I J n hs he n 0 jm_N (by omega) s h0 (by rw [jm_N_eq]; exact hn)
/-- two loops that go alike -/
theorem zb_alike {σ ε : Type} {f g : σ → Option (σ ⊕ ε)} (I : σ → Prop) (h : ∀ s, I s → f s = g s ∧ ∀ s', f s = some (.inl s') → I s') : ∀ N s, I s → jm_loop f N s = jm_loop g N s := by
  intro N
  induction N with
  | zero => intro s _; rfl
  | succ N ih =>
    intro s hs
    obtain ⟨h1, h2⟩ := h s hs
    rw [jm_loop, jm_loop, ← h1]
    cases q : f s with
    | none => rfl
    | some v =>
      cases v with
      | inl s' => exact ih s' (h2 s' q)
      | inr e => rfl
/-! taught -/
noncomputable def tgT (T : jm_T) (p k : Nat) : jm_T := pt T 10 k (T 10 k ||| (1 <<< (nI p &&& 31)))
noncomputable def tgV (T : jm_T) (p q r n k : Nat) : Int32 := ts_over (wkN n (tgT T p k)) q r
noncomputable def tgS (T : jm_T) (p q r n k : Nat) : Int32 × Int32 := zf (fun k s => if tgV T p q r n k ≤ s.2 then s else (nI k, tgV T p q r n k)) k (-9, ts_over (wkN n T) q r)
section
variable {C M : jm_M}
theorem st_taught (h : Inv C M) (x y z a : Int32) : SC (sW_taught C x y z a) (sM_taught M x y z a) := by
  obtain ⟨hw, hr, hd⟩ := h.now
  have h6 := hw.1.p.2
  have h10 := hw.1.b
  unfold sW_taught sM_taught
  rw [T_hasPerson_x hw.1, M_isPerson_x hw.1 hr, W_areTwo hw.1, M_areTwo hw.1 hr, M_bound]
  simp only [zb_bs]
  by_cases h2 : noP (C 1) x
  · rw [if_pos h2, zb_i00, zb_i00, zb_bs, if_neg (by decide), W_refuse C (k := 1) rfl (by omega), M_no M (k := 1) rfl (by omega)]
    simp only [zb_bs]
    exact SC.mk (Inv_ref h (by omega))
  · obtain ⟨p, hp, rfl⟩ := isP hw.1 h2
    rw [if_neg h2, zb_i10, zb_i10]
    by_cases h5 : ar2 (C 1) y z
    · obtain ⟨q, r, hq, hrr, -, rfl, rfl⟩ := is2 hw.1 h5
      rw [if_pos h5, zb_i10, zb_i10]
      by_cases h3 : 0 ≤ a
      · by_cases h4 : a ≤ 60
        · obtain ⟨n, hn, rfl⟩ := zb_upto (n := 60) (by omega) h3 h4
          rw [if_pos h3, if_pos h4, if_pos h3, if_pos h4, zb_bs, if_pos rfl]
          have hwn := wf_wkN n hw
          have z1 := h.zt (t := 1) (by omega) (by omega)
          have zW : ZT (wkN n (C 1)) := ZT_wkN z1 n hw.1
          have wfk : ∀ k, k < nb (C 1) → wfT 999 (tgT (C 1) p k) := fun k hk => wf_read hw hp hk
          have zk : ∀ k, k < nb (C 1) → ZT (wkN n (tgT (C 1) p k)) := fun k hk => ZT_wkN (ZT_pt z1 (Or.inr (Or.inr ⟨by omega, by omega⟩))) n (wfk k hk).1
          -- the class
          have eC : ∃ e, sF_bestTaught C 1 (nI p) (nI q) (nI r) (nI n) = some e ∧ e.1 = (tgS (C 1) p q r n (nb (C 1))).1 ∧ ∃ T', ZT T' ∧ e.2 = stT C 4 T' := by
            unfold sF_bestTaught
            rw [F_after (by omega) (h.zt (by omega) (by omega)) z1 hw.1 (by omega), zb_bs, T_overOf (by rw [stT_s]; exact hwn.1) (by omega) (by omega), zb_bs, stT_s]
            obtain ⟨e, e1, e2⟩ := zb_ch (f := sF_bestTaught_L22 1 (nI p) (nI n) (nI q) (nI r)) (s := ((-9), ts_over (wkN n (C 1)) q r, 0, stT C 4 (wkN n (C 1))))
              (fun k s => ∃ T', ZT T' ∧ s = ((tgS (C 1) p q r n k).1, (tgS (C 1) p q r n k).2, nI k, stT C 4 T'))
              (fun e => e.1 = (tgS (C 1) p q r n (nb (C 1))).1 ∧ ∃ T', ZT T' ∧ e.2 = stT C 4 T') (nb (C 1)) (by omega) ⟨_, zW, rfl⟩ (by
                intro k hk s hs
                obtain ⟨T', hz, rfl⟩ := hs
                left
                unfold sF_bestTaught_L22
                simp only [stT_n (show ¬ 1 = 4 by omega)]
                rw [h10.1, if_neg (zb_nle hk (by omega)), F_think (by omega) (by rw [stT_s]; exact hz) (by rw [stT_n (by omega)]; exact z1), zb_bs, stT_2, stT_n (show ¬ (1 : Nat) = 4 by omega), zb_rd (by omega) (by omega), zb_bs, wa_st (by omega) (by omega), zb_bs, stT_2, stT_s,
                  T_weeksPass (by rw [stT_s]; exact (wfk k hk).1) (by omega), zb_bs, stT_s, stT_2, T_overOf (by rw [stT_s]; exact (wf_wkN n (wfk k hk)).1) (by omega) (by omega), zb_bs, stT_s]
                have e : tgS (C 1) p q r n (k + 1) = if tgV (C 1) p q r n k ≤ (tgS (C 1) p q r n k).2 then tgS (C 1) p q r n k else (nI k, tgV (C 1) p q r n k) := rfl
                rw [e]
                generalize tgS (C 1) p q r n k = s0
                show ∃ s', (if tgV (C 1) p q r n k ≤ s0.2 then _ else _) = _ ∧ _
                by_cases g : tgV (C 1) p q r n k ≤ s0.2
                · rw [if_pos g, if_pos g, nI_1]
                  exact ⟨_, rfl, _, zk k hk, rfl⟩
                · rw [if_neg g, if_neg g, nI_1]
                  exact ⟨_, rfl, _, zk k hk, rfl⟩) (by
                intro s hs
                obtain ⟨T', hz, rfl⟩ := hs
                unfold sF_bestTaught_L22
                simp only [stT_n (show ¬ 1 = 4 by omega)]
                rw [h10.1, if_pos (zb_yle (Nat.le_refl _) (by omega))]
                exact ⟨_, rfl, rfl, T', hz, rfl⟩)
            rw [e1, zb_bs]
            exact ⟨_, rfl, e2⟩
          obtain ⟨e, e1, e2, T', hz, e3⟩ := eC
          -- the reference
          obtain ⟨M1, M2, M3, m1, m2, hr2, m3, s3⟩ := M_ahead hw (n := n) (by omega) hr hd
          have eM : ∃ e, jm_loop (sM_taught_L72 (nI p) (nI n) (nI q) (nI r)) jm_N ((-9), ts_over (wkN n (C 1)) q r, 0, M3) = some e ∧ e.1 = (tgS (C 1) p q r n (nb (C 1))).1 ∧ sameM M e.2 := by
            refine zb_ch (fun k s => ∃ M', sameM M M' ∧ s = ((tgS (C 1) p q r n k).1, (tgS (C 1) p q r n k).2, nI k, M')) _ (nb (C 1)) (by omega) ⟨_, s3, rfl⟩ ?_ ?_
            · intro k hk s hs
              obtain ⟨M', hs, rfl⟩ := hs
              left
              have hr' := TR_same hr hw.1 hs
              have hd' := hs.2.2.2
              obtain ⟨N1, n1, d1⟩ := M_minds M'
              have hrn := TR_MD hr' hw.1 d1
              obtain ⟨g5, g6, g7, g8, g9, -⟩ := hrn.2.2.1 k hk
              have hrt : TR (tgT (C 1) p k) (jm_up N1 0 9 k (C 1 10 k ||| (1 <<< (nI p &&& 31))) 0) := TR_upJ hrn (by omega)
              obtain ⟨N2, n2, hr2', f2⟩ := M_goes (wfk k hk) (by omega) hrt (n := n) (by rw [zb_up_n (by omega), d1.d]; exact hd')
              obtain ⟨N3, n3, t3⟩ := M_forgets d1 (mF.tr (mF.up (Or.inl (by simp))) f2.goes)
              unfold sM_taught_L72
              simp only []
              rw [hr'.1.2.1, h10.1, if_neg (zb_nle hk (by omega)), n1, zb_bs, zb_rd (by omega) (by omega), zb_bs, g9, zb_wa (by omega) (by omega), zb_bs, n2, zb_bs,
                M_overNow (wf_wkN n (wfk k hk)) (by omega) hr2' (by rw [np_wkN]; exact hq) (by rw [np_wkN]; exact hrr), zb_bs, n3, zb_bs]
              have e : tgS (C 1) p q r n (k + 1) = if tgV (C 1) p q r n k ≤ (tgS (C 1) p q r n k).2 then tgS (C 1) p q r n k else (nI k, tgV (C 1) p q r n k) := rfl
              rw [e]
              generalize tgS (C 1) p q r n k = s0
              show ∃ s', (if s0.2 < tgV (C 1) p q r n k then _ else _) = _ ∧ _
              by_cases g : tgV (C 1) p q r n k ≤ s0.2
              · rw [if_pos g, if_neg (Int32.not_lt.2 g), nI_1]
                exact ⟨_, rfl, _, hs.tr t3, rfl⟩
              · rw [if_neg g, if_pos (Int32.not_le.1 g), nI_1]
                exact ⟨_, rfl, _, hs.tr t3, rfl⟩
            · intro s hs
              obtain ⟨M', hs, rfl⟩ := hs
              have hr' := TR_same hr hw.1 hs
              unfold sM_taught_L72
              simp only []
              rw [hr'.1.2.1, h10.1, if_pos (zb_yle (Nat.le_refl _) (by omega))]
              exact ⟨_, rfl, rfl, hs⟩
          obtain ⟨f, f1, f2, f3⟩ := eM
          rw [e1, zb_bs, m1, zb_bs, m2, zb_bs, M_overNow hwn (by omega) hr2 (by rw [np_wkN]; exact hq) (by rw [np_wkN]; exact hrr), zb_bs, m3, zb_bs, f1, zb_bs, e2, f2, e3]
          exact SC.mk (Inv_same h (sameC_mind h hz) f3)
        · rw [if_pos h3, if_neg h4, if_pos h3, if_neg h4, zb_bs, if_neg (by decide), W_refuse C (k := 6) rfl (by omega), M_no M (k := 6) rfl (by omega)]
          simp only [zb_bs]
          exact SC.mk (Inv_ref h (by omega))
      · rw [if_neg h3, if_neg h3, zb_bs, if_neg (by decide), W_refuse C (k := 4) rfl (by omega), M_no M (k := 4) rfl (by omega)]
        simp only [zb_bs]
        exact SC.mk (Inv_ref h (by omega))
    · rw [if_neg h5, zb_i00, zb_i00, zb_bs, if_neg (by decide), W_refuse C (k := 1) rfl (by omega), M_no M (k := 1) rfl (by omega)]
      simp only [zb_bs]
      exact SC.mk (Inv_ref h (by omega))
end
