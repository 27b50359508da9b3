/-! couples: the reference -/
theorem core3 {j i : Nat} (h : core j i) : ¬ (j ∈ [38, 39, 40] ∨ (j = 0 ∧ i ∈ ([] : List Nat))) := by
  rcases h with ⟨h1, h2, h3⟩ | ⟨h1, h2, h3⟩
  · simp; omega
  · simp; omega
theorem M_leastIn {s : Nat} (h0 : 0 < s) (hs : s < 64) : sM_leastIn (nI s) = some (nI (lb s)) := by
  obtain ⟨l1, l2⟩ := lb_at s hs h0
  unfold sM_leastIn
  refine zb_forB (fun k => nI k) (nI (lb s)) (lb s) rfl (fun j hj => ?_) ?_ (by omega) rfl
  · have e : sM_has (nI s) (nI j) = some 0 := by
      rw [M_has, if_neg (fun z => by
        have := (zb_hb j (by omega) s (by omega)).1 z
        rw [lb_lo s hs j hj] at this
        cases this)]
    unfold sM_leastIn_L2
    rw [e, zb_bs, if_pos rfl, nI_1]
  · have e : sM_has (nI s) (nI (lb s)) = some 1 := by
      rw [M_has, if_pos ((zb_hb _ (by omega) s (by omega)).2 l1)]
    unfold sM_leastIn_L2
    rw [e, zb_bs, if_neg (by decide)]
theorem mk38_1 {T : jm_T} {M : jm_M} {n p q : Nat} (h : mk38 T M n) (hp : p < n) (hq : p < q) (hn : q < np T) : (M 0 38 (6 * p + q) = 1) = (dB T p q = true) := by
  rw [h p q hp hq hn, dB_iff]
  unfold dn
  by_cases c : ts_over T p q < 0 <;> simp [c]
def cM (T : jm_T) (M M' : jm_M) : Prop := mF [38, 39, 40] [] M M' ∧ mk38 T M' (np T)
theorem cM.up {T : jm_T} {M M' : jm_M} (h : cM T M M') {j i : Nat} {v : Int32} (hj : j = 39 ∨ j = 40) : cM T M (jm_up M' 0 j i v) := by
  refine ⟨h.1.tr (mF.up (Or.inl (by simp; omega))), fun a b h1 h2 h3 => ?_⟩
  rw [zb_up_n (by omega)]
  exact h.2 a b h1 h2 h3
section
variable {T : jm_T} {M : jm_M} {w : Nat}
theorem cM.tr (hc : ctT T) (hr : TR T (M 0)) {M' : jm_M} (h : cM T M M') : TR T (M' 0) := TR_mF hr hc h.1 (fun j i => core3)
theorem M_findMost (hw : wfT w T) (hw2 : w < 900000) (hr : TR T (M 0)) : ∃ M', sM_findMost M = some M' ∧ cM T M M' ∧ ∀ s, s < 2 ^ np T → M' 0 39 s = nI (mo T s) := by
  have h := hw.1.p
  have h64 := pow_64 hw.1
  have hp0 : 0 < 2 ^ np T := Nat.two_pow_pos _
  obtain ⟨M1, m1, m2, m3⟩ := M_marksDown hw hw2 hr
  have c1 : cM T M M1 := ⟨m2.mono (fun x h => by simp at h ⊢; omega) (fun x h => by simp at h), m3⟩
  unfold sM_findMost
  rw [m1, zb_bs, show (0 : Int32) = nI 0 from rfl, zb_wa (by omega) (by omega), zb_bs]
  have c2 : cM T M (jm_up M1 0 39 0 (nI 0)) := c1.up (Or.inl rfl)
  obtain ⟨e, e1, e2, e3⟩ := zb_ch (f := sM_findMost_L13) (s := (1, jm_up M1 0 39 0 (nI 0))) (fun (k : Nat) (u : Int32 × jm_M) => ∃ M', u = (nI (k + 1), M') ∧ cM T M M' ∧ ∀ s, s < k + 1 → M' 0 39 s = nI (mo T s)) (fun e => cM T M e ∧ ∀ s, s < 2 ^ np T → e 0 39 s = nI (mo T s)) (2 ^ np T - 1) (by omega) ⟨_, rfl, c2, fun s hs => by
      have : s = 0 := by omega
      subst this
      rw [zb_up_s]
      rfl⟩ (by
    intro k hk u hu
    obtain ⟨M', rfl, f1, t1⟩ := hu
    left
    obtain ⟨l1, l2⟩ := lb_at (k + 1) (by omega) (by omega)
    have ln : lb (k + 1) < np T := tb_lt (show k + 1 < 2 ^ np T by omega) l1
    have wl := wo_lt (k + 1) (by omega) (lb (k + 1)) l2 l1
    unfold sM_findMost_L13
    simp only []
    rw [(f1.tr hw.1 hr).1.1, h.1, zb_shl _ (by omega), if_neg (zb_nle (show k + 1 < 2 ^ np T by omega) (by omega)), M_leastIn (by omega) (by omega), zb_bs, zb_clr6 (by omega) (by omega), zb_bs, zb_rd (by omega) (by omega), zb_bs, t1 _ wl, zb_wa (by omega) (by omega), zb_bs, nI_1, zb_bs, nI_1]
    have f2 : cM T M (jm_up M' 0 39 (k + 1) (nI (mo T (wo (k + 1) (lb (k + 1)))))) := f1.up (Or.inl rfl)
    obtain ⟨e, e1, e2, e3, e4⟩ := zb_ch (f := sM_findMost_L53 (nI (wo (k + 1) (lb (k + 1)))) (nI (lb (k + 1))) (nI (k + 1), M')) (s := (nI (lb (k + 1) + 1), jm_up M' 0 39 (k + 1) (nI (mo T (wo (k + 1) (lb (k + 1))))))) (fun (j : Nat) (u : Int32 × jm_M) => ∃ M2, u = (nI (lb (k + 1) + 1 + j), M2) ∧ cM T M M2 ∧ (∀ s, s < k + 1 → M2 0 39 s = nI (mo T s)) ∧ M2 0 39 (k + 1) = nI (mxN T (mo T) (lb (k + 1)) (wo (k + 1) (lb (k + 1))) (lb (k + 1) + 1 + j)))
      (fun e => cM T M e ∧ (∀ s, s < k + 1 → e 0 39 s = nI (mo T s)) ∧ e 0 39 (k + 1) = nI (mxN T (mo T) (lb (k + 1)) (wo (k + 1) (lb (k + 1))) (np T))) (np T - (lb (k + 1) + 1)) (by omega)
      ⟨_, rfl, f2, fun s hs => by rw [zb_up_n (by omega)]; exact t1 s hs, by rw [zb_up_s, mxN_lo T (mo T) _ _ _ (by omega)]⟩ (by
      intro j hj u hu
      obtain ⟨M2, rfl, g1, g2, g3⟩ := hu
      left
      have hq : lb (k + 1) + 1 + j < np T := by omega
      have wk := wo_le (wo (k + 1) (lb (k + 1))) (lb (k + 1) + 1 + j)
      have ms := mo_64 T (show wo (wo (k + 1) (lb (k + 1))) (lb (k + 1) + 1 + j) < 64 by omega)
      have mb := mxN_le (T := T) (f := mo T) (p := lb (k + 1)) (r := wo (k + 1) (lb (k + 1))) (fun u hu => mo_le T (u + 1) u (by omega) (by omega)) (lb (k + 1) + 1 + j)
      have e38 := mk38_1 g1.2 ln (show lb (k + 1) < lb (k + 1) + 1 + j by omega) hq
      have eS := mxN_S T (mo T) (lb (k + 1)) (wo (k + 1) (lb (k + 1))) (lb (k + 1) + 1 + j)
      unfold sM_findMost_L53
      simp only []
      rw [(g1.tr hw.1 hr).1.1, h.1, if_neg (zb_nle hq (by omega)), M_has, zb_bs, zb_6, zb_rd (by omega) (by omega), zb_bs, zb_clr6 (by omega) (by omega), zb_rd (by omega) (by omega), zb_bs, zb_rd (by omega) (by omega), zb_bs, zb_bs, zb_wa (by omega) (by omega), zb_bs, g2 _ (by omega), g3, nI_1, nI_1]
      have hb := zb_hb (lb (k + 1) + 1 + j) (by omega) (wo (k + 1) (lb (k + 1))) (by omega)
      by_cases a : (wo (k + 1) (lb (k + 1))).testBit (lb (k + 1) + 1 + j) = true
      · rw [if_pos (hb.2 a), zb_i10]
        by_cases b : dB T (lb (k + 1)) (lb (k + 1) + 1 + j) = true
        · rw [if_pos (e38.mpr b)]
          rw [if_pos ⟨by omega, a, b⟩] at eS
          by_cases c : mo T (wo (wo (k + 1) (lb (k + 1))) (lb (k + 1) + 1 + j)) + 1 ≤ mxN T (mo T) (lb (k + 1)) (wo (k + 1) (lb (k + 1))) (lb (k + 1) + 1 + j)
          · rw [if_pos (zb_yle c (by omega))]
            refine ⟨_, rfl, M2, rfl, g1, g2, ?_⟩
            rw [show lb (k + 1) + 1 + (j + 1) = lb (k + 1) + 1 + j + 1 by omega, eS, Nat.max_eq_left (by omega)]
            exact g3
          · rw [if_neg (zb_nle (by omega) (by omega))]
            refine ⟨_, rfl, _, rfl, g1.up (Or.inl rfl), fun s hs => by rw [zb_up_n (by omega)]; exact g2 s hs, ?_⟩
            rw [show lb (k + 1) + 1 + (j + 1) = lb (k + 1) + 1 + j + 1 by omega, eS, Nat.max_eq_right (by omega), zb_up_s, Nat.add_comm]
        · rw [if_neg (fun z => b (e38.mp z))]
          rw [if_neg (fun z => b z.2.2)] at eS
          refine ⟨_, rfl, M2, rfl, g1, g2, ?_⟩
          rw [show lb (k + 1) + 1 + (j + 1) = lb (k + 1) + 1 + j + 1 by omega, eS]
          exact g3
      · rw [if_neg (fun z => a (hb.1 z)), zb_i00]
        rw [if_neg (fun z => a z.2.1)] at eS
        refine ⟨_, rfl, M2, rfl, g1, g2, ?_⟩
        rw [show lb (k + 1) + 1 + (j + 1) = lb (k + 1) + 1 + j + 1 by omega, eS]
        exact g3) (by
      intro u hu
      obtain ⟨M2, rfl, g1, g2, g3⟩ := hu
      unfold sM_findMost_L53
      simp only []
      rw [(g1.tr hw.1 hr).1.1, h.1, if_pos (zb_yle (by omega) (by omega))]
      refine ⟨_, rfl, g1, g2, ?_⟩
      rw [show lb (k + 1) + 1 + (np T - (lb (k + 1) + 1)) = np T by omega] at g3
      exact g3)
    rw [e1, zb_bs]
    refine ⟨_, rfl, e, rfl, e2, fun s hs => ?_⟩
    by_cases g : s = k + 1
    · subst g
      rw [e4, mo_eq T (by omega) (by omega)]
    · exact e3 s (by omega)) (by
    intro u hu
    obtain ⟨M', rfl, f1, t1⟩ := hu
    unfold sM_findMost_L13
    simp only []
    rw [(f1.tr hw.1 hr).1.1, h.1, zb_shl _ (by omega), if_pos (zb_yle (by omega) (by omega))]
    exact ⟨_, rfl, f1, fun s hs => t1 s (by omega)⟩)
  rw [show (1 : Int32) = nI 1 from rfl] at e1
  show ∃ M', (jm_loop sM_findMost_L13 jm_N (nI 1, jm_up M1 0 39 0 (nI 0))).bind (fun e22 => some e22) = some M' ∧ _
  rw [e1, zb_bs]
  exact ⟨e, rfl, e2, e3⟩
theorem M_partnerFor (hc : ctT T) (hr : TR T (M 0)) {s p : Nat} (hp : p < np T) (hs : s < 2 ^ np T) (hk : mk38 T M (np T)) (hm : ∀ u, u < 2 ^ np T → M 0 39 u = nI (mo T u)) : sM_partnerFor M (nI p) (nI (wo s p)) (nI (mo T s)) = some (zb_o (pqO T p s)) := by
  have h6 := hc.p
  have h64 := pow_64 hc
  have hf := pqO_at T p s
  have w1 := wo_le s p
  have stp : ∀ k, p < k → k < np T → sM_partnerFor_L5 M (nI (wo s p)) (nI p) (nI (mo T s)) (nI k) = if pqP T p s k then some (.inr (.inr (nI k))) else some (.inl (nI (k + 1))) := by
    intro k hpk hk'
    have w2 := wo_le (wo s p) k
    have m1 := mo_64 T (show wo (wo s p) k < 64 by omega)
    have m2 := mo_64 T (show s < 64 by omega)
    have hb := zb_hb k (by omega) (wo s p) (by omega)
    have e38 := mk38_1 hk hp hpk hk'
    unfold sM_partnerFor_L5
    rw [hr.1.1, h6.1, if_neg (zb_nle hk' (by omega)), M_has, zb_bs, zb_6, zb_rd (by omega) (by omega), zb_bs, zb_clr6 (by omega) (by omega), zb_rd (by omega) (by omega), zb_bs, hm _ (by omega), nI_1, nI_1]
    by_cases a : (wo s p).testBit k = true
    · rw [if_pos (hb.2 a), zb_i10]
      by_cases b : dB T p k = true
      · rw [if_pos (e38.mpr b)]
        by_cases d : 1 + mo T (wo (wo s p) k) = mo T s
        · rw [if_pos (by rw [← d, Nat.add_comm]), if_pos ⟨hpk, a, b, d⟩]
        · rw [if_neg (by rw [zb_eq (by omega) (by omega)]; omega), if_neg (fun z => d z.2.2.2)]
      · rw [if_neg (fun z => b (e38.mp z)), if_neg (fun z => b z.2.2.1)]
    · rw [if_neg (fun z => a (hb.1 z)), zb_i00, if_neg (fun z => a z.2.1)]
  unfold sM_partnerFor
  rw [nI_1, zb_bs]
  cases e : pqO T p s with
  | none =>
    rw [e] at hf
    refine zb_fromB (fun k => nI k) (.inl ()) (p + 1) (np T) (by omega) rfl (fun k h1 hk => ?_) ?_ (by omega) rfl
    · rw [stp k (by omega) hk, if_neg (hf k hk)]
    · unfold sM_partnerFor_L5
      rw [hr.1.1, h6.1, if_pos (zb_yle (Nat.le_refl _) (by omega))]
  | some q =>
    rw [e] at hf
    obtain ⟨g1, g2, g3⟩ := hf
    refine zb_fromB (fun k => nI k) (.inr (nI q)) (p + 1) q (by have := g2.1; omega) rfl (fun k h1 hk => ?_) ?_ (by omega) rfl
    · rw [stp k (by omega) (by omega), if_neg (g3 k hk)]
    · rw [stp q g2.1 g1, if_pos g2]
theorem M_partnersA (hc : ctT T) (hr : TR T (M 0)) : ∀ d p N M', p + d = np T → d < N → cM T M M' → (∀ s, s < 2 ^ np T → M' 0 39 s = nI (mo T s)) → (∀ b, b < np T → (prN T p).1.testBit b = false → M' 0 40 b = (prN T p).2 b) → ∃ e, jm_loop sM_findPartners_L9 N (nI (prN T p).1, M') = some e ∧ cM T M e ∧ ∀ b, b < np T → e 0 40 b = (prN T (np T)).2 b := by
  have h6 := hc.p
  have h64 := pow_64 hc
  intro d
  induction d with
  | zero =>
    intro p N M' hp hN hf hm hg
    cases N with
    | zero => omega
    | succ N =>
      have : p = np T := by omega
      subst this
      have hz := prI_end (prN_I hc (np T) (Nat.le_refl _))
      refine ⟨M', ?_, hf, fun b hb => hg b hb (by rw [hz]; exact Nat.zero_testBit b)⟩
      rw [jm_loop, hz]
      unfold sM_findPartners_L9
      rw [if_pos (show (nI 0, M').1 = 0 from rfl)]
  | succ d ih =>
    intro p N M' hp hN hf hm hg
    have hi := prN_I hc p (by omega)
    have hn : prN T (p + 1) = prS T p (prN T p) := rfl
    have ihp := ih (p + 1)
    rw [hn] at ihp
    generalize prN T p = u at hi hg ihp
    obtain ⟨hu, hb⟩ := hi
    cases c : u.1.testBit p with
    | false =>
      have e : prS T p u = u := by unfold prS; rw [c, if_neg (by simp)]
      rw [e] at ihp
      exact ihp N M' (by omega) (by omega) hf hm hg
    | true =>
      cases N with
      | zero => omega
      | succ N =>
        have u0 : 0 < u.1 := by
          rcases Nat.eq_zero_or_pos u.1 with z | z
          · rw [z, Nat.zero_testBit] at c; cases c
          · exact z
        obtain ⟨l1, l2⟩ := lb_at u.1 (by omega) u0
        have lp : lb u.1 = p := by
          have a := (hb _ l1).1
          rcases Nat.lt_or_ge p (lb u.1) with z | z
          · rw [lb_lo u.1 (by omega) p z] at c; cases c
          · omega
        have hpn : p < np T := by omega
        have w1 := wo_le u.1 p
        have r1 := hf.tr hc hr
        have ms := mo_64 T (show u.1 < 64 by omega)
        have g9 := (hb p c).2.2
        have tw : ∀ s b, b < np T → (wo s p).testBit b = false → b = p ∨ s.testBit b = false := by
          intro s b hb h
          rw [wo_tb (by omega) (by omega)] at h
          by_cases z : b = p
          · exact Or.inl z
          · simp [z] at h; exact Or.inr h
        rw [jm_loop]
        have hfO := pqO_at T p u.1
        have eS : sM_findPartners_L9 (nI u.1, M') = (match pqO T p u.1 with
          | none => some (.inl (nI (wo u.1 p), jm_up M' 0 40 p (-9)))
          | some q => some (.inl (nI (wo (wo u.1 p) q), jm_up (jm_up M' 0 40 p (nI q)) 0 40 q (nI p)))) := by
          unfold sM_findPartners_L9
          simp only []
          rw [if_neg (show ¬ nI u.1 = 0 by rw [← nI_0, zb_eq (by omega) (by omega)]; omega), M_leastIn u0 (by omega), zb_bs, lp, zb_rd (by omega) (by omega), zb_bs, hm _ hu, zb_clr6 (by omega) (by omega), M_partnerFor hc r1 hpn hu hf.2 hm, zb_bs, zb_wa (by omega) (by omega), zb_bs, zb_bs]
          cases e : pqO T p u.1 with
          | none => rw [if_neg (show ¬ (0 : Int32) ≤ zb_o none by decide)]; rfl
          | some q =>
            rw [e] at hfO
            have hq := hfO.1
            show (if 0 ≤ nI q then (jm_wa 6 _ 0 40 (nI q) (nI p)).bind _ else _) = _
            rw [if_pos (zb_nd2 (by omega)), zb_wa (by omega) (by omega), zb_bs]
            show (some (nI (wo u.1 p) &&& (((1 : Int32) <<< (nI q &&& 31)) ^^^ (-1)))).bind _ = _
            rw [zb_clr6 (by omega) (by omega), zb_bs]
            rfl
        rw [eS]
        unfold prS at ihp
        rw [if_pos c] at ihp
        cases e : pqO T p u.1 with
        | none =>
          rw [e] at ihp
          refine ihp N _ (by omega) (by omega) (hf.up (Or.inr rfl)) (fun s hs => by rw [zb_up_n (by omega)]; exact hm s hs) (fun b hbn hb2 => ?_)
          show _ = u.2 b
          by_cases z : b = p
          · subst z; rw [zb_up_s, g9]
          · rw [zb_up_n (by omega)]
            exact hg b hbn ((tw u.1 b hbn hb2).resolve_left z)
        | some q =>
          rw [e] at ihp hfO
          have hq := hfO.1
          refine ihp N _ (by omega) (by omega) ((hf.up (Or.inr rfl)).up (Or.inr rfl)) (fun s hs => by rw [zb_up_n (by omega), zb_up_n (by omega)]; exact hm s hs) (fun b hbn hb2 => ?_)
          show _ = upf (upf u.2 p (nI q)) q (nI p) b
          have hb3 : (wo (wo u.1 p) q).testBit b = false := hb2
          rw [wo_tb (by omega) (by omega)] at hb3
          unfold upf
          by_cases z : b = q
          · subst z; rw [zb_up_s, if_pos rfl]
          · rw [zb_up_n (by omega), if_neg z]
            by_cases y : b = p
            · subst y; rw [zb_up_s, if_pos rfl]
            · rw [zb_up_n (by omega), if_neg y]
              simp [z] at hb3
              exact hg b hbn ((tw u.1 b hbn hb3).resolve_left y)
theorem M_findPartners (hc : ctT T) (hr : TR T (M 0)) {M' : jm_M} (hf : cM T M M') (hm : ∀ s, s < 2 ^ np T → M' 0 39 s = nI (mo T s)) : ∃ e, sM_findPartners M' = some e ∧ cM T M e ∧ ∀ b, b < np T → e 0 40 b = (prN T (np T)).2 b := by
  have h6 := hc.p
  have h64 := pow_64 hc
  have hp0 : 0 < 2 ^ np T := Nat.two_pow_pos _
  obtain ⟨e, e1, e2⟩ := M_partnersA hc hr (np T) 0 jm_N M' (by omega) (by rw [jm_N_eq]; omega) hf hm (fun b hb h => by
    have : (2 ^ np T - 1).testBit b = false := h
    rw [Nat.testBit_two_pow_sub_one] at this
    simp at this
    omega)
  unfold sM_findPartners
  rw [(hf.tr hc hr).1.1, h6.1, zb_shl _ (by omega), show (1 : Int32) = nI 1 from rfl, pk_sub (by omega), zb_bs]
  have e3 : jm_loop sM_findPartners_L9 jm_N (nI (2 ^ np T - 1), M') = some e := e1
  rw [e3, zb_bs]
  exact ⟨e, rfl, e2⟩
end
section
variable {C M : jm_M}
theorem cM.same {T : jm_T} (h : Inv C M) {M' : jm_M} (hf : cM T M M') : sameM M M' :=
  ⟨fun j i hj => hf.1 0 j i (fun e => core3 hj e.2), fun i _ => hf.1 0 32 i (by simp), hf.1.mono (fun x h => by simp at h ⊢; omega) (fun x h => by simp at h), by rw [hf.1 0 0 17 (by simp)]; exact h.now.2.2⟩
theorem Inv.z17 (h : Inv C M) : C 17 2 0 = 0 := h.2.2.2.2.2.2.2
theorem st_couples (h : Inv C M) (x : Int32) : SC (sW_couples C x) (sM_couples M x) := by
  obtain ⟨hw, hr, hd⟩ := h.now
  have h6 := hw.1.p
  have h64 := pow_64 hw.1
  have hp0 : 0 < 2 ^ np (C 1) := Nat.two_pow_pos _
  obtain ⟨C', c1, c2, c3, c4⟩ := C_choose hw h.z17
  obtain ⟨M1, m1, m2, m3⟩ := M_findMost hw (by omega) hr
  obtain ⟨M2, n1, n2, n3⟩ := M_findPartners hw.1 hr m2 m3
  have hI1 := Inv_same h (c2.same h) (m2.same h)
  have hI2 := Inv_same h (c2.same h) (n2.same h)
  unfold sW_couples sM_couples
  rw [hr.1.1, h6.1]
  have e1 : (-1 : Int32).toInt = -1 := rfl
  have e0 : (0 : Int32).toInt = 0 := rfl
  by_cases hx : x = -1
  · subst hx
    have ei : sM_isIn (-1) (-1) (nI (np (C 1)) - 1) = some 1 := by
      unfold sM_isIn
      rw [if_neg (by decide), if_neg (by
        rw [zb_pred (by omega), Int32.le_iff_toInt_le, nI_toInt (by omega), e1]
        omega)]
    rw [if_pos rfl, c1, zb_bs, if_pos rfl, ei, zb_bs, if_neg (by decide), m1, zb_bs, if_neg (by decide), (m2.tr hw.1 hr).1.1, h6.1, zb_shl _ (by omega), show (1 : Int32) = nI 1 from rfl, pk_sub (by omega), zb_rd (by omega) (by omega), zb_bs, m3 _ (by omega), c3]
    exact SC.mk hI1
  · rw [if_neg hx, T_hasPerson_x hw.1, zb_bs]
    by_cases h2 : noP (C 1) x
    · have ei : sM_isIn x (-1) (nI (np (C 1)) - 1) = some 0 := by
        unfold sM_isIn
        by_cases a : x < -1
        · rw [if_pos a]
        · rw [if_neg a, if_pos]
          rw [zb_pred (by omega)]
          rcases h2 with z | z
          · exfalso
            apply hx
            rw [← Int32.toInt_inj]
            rw [Int32.lt_iff_toInt_lt] at a z
            omega
          · exact z
      rw [if_pos h2, zb_i00, ei, zb_bs, zb_i00]
      exact SC_no h (k := 1) rfl (by omega)
    · obtain ⟨p, hp, rfl⟩ := isP hw.1 h2
      have ei : sM_isIn (nI p) (-1) (nI (np (C 1)) - 1) = some 1 := by
        unfold sM_isIn
        rw [if_neg (by
          rw [Int32.lt_iff_toInt_lt, nI_toInt (by omega), e1]
          omega), if_neg (by
          rw [zb_pred (by omega), zb_le (by omega) (by omega)]
          omega)]
      rw [if_neg h2, zb_i10, c1, zb_bs, if_neg hx, zb_rd (by omega) (by omega), zb_bs, c4 p hp, ei, zb_bs, if_neg (by decide), m1, zb_bs, if_pos (zb_nd2 (by omega)), n1, zb_bs, zb_rd (by omega) (by omega), zb_bs, n3 p hp]
      exact SC.mk hI2
end
