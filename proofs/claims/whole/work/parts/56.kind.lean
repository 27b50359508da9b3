/-! what kind -/
noncomputable def wkV (T : jm_T) (j c p q i v : Nat) : Int32 := ts_over (wkN i (pt T j c (nI v))) p q
def wkP (T : jm_T) (R : Nat → Int32) (j c p q n v : Nat) : Prop := ∀ i, i < n → wkV T j c p q i v = R i
section
variable {C M : jm_M}
theorem M_wasSo {T : jm_T} {M : jm_M} {R : Nat → Int32} {r p q : Nat} (hw : wfT 999 T) (hr : TR T (M 0)) (hd : M 0 0 17 = 0) (hp : p < np T) (hq : q < np T) (h12 : r ≤ 12) (hr2 : M 0 0 41 = nI r) (hR : ∀ i, i < r → M 0 41 i = R i) : ∃ b M', sM_wasSo M (nI p) (nI q) = some (b, M') ∧ mF [2, 8, 9] [15] M M' ∧ ((b = 1 ∧ ∀ i, i < r → ts_over (wkN i T) p q = R i) ∨ (b = 0 ∧ ¬ ∀ i, i < r → ts_over (wkN i T) p q = R i)) := by
  unfold sM_wasSo
  obtain ⟨e, e1, e2⟩ := zb_ch (f := sM_wasSo_L2 (nI p) (nI q)) (s := (0, M)) (fun (k : Nat) (s : Int32 × jm_M) => ∃ M' : jm_M, s = (nI k, M') ∧ TR (wkN k T) (M' 0) ∧ mF [2, 8, 9] [15] M M' ∧ ∀ i, i < k → ts_over (wkN i T) p q = R i)
    (fun e => (∃ M', e = .inl M' ∧ mF [2, 8, 9] [15] M M' ∧ ∀ i, i < r → ts_over (wkN i T) p q = R i) ∨ ∃ M', e = .inr (0, M') ∧ mF [2, 8, 9] [15] M M' ∧ ¬ ∀ i, i < r → ts_over (wkN i T) p q = R i) r (by omega) ⟨M, rfl, hr, mF.rf, fun i h => by omega⟩ (by
    intro k hk s hs
    obtain ⟨M', rfl, r1, f1, hj⟩ := hs
    have hwk := wf_wkN k hw
    unfold sM_wasSo_L2
    simp only []
    rw [f1 0 0 41 (by simp), hr2, if_neg (zb_nle hk (by omega)), M_overNow hwk (by omega) r1 (by rw [np_wkN]; exact hp) (by rw [np_wkN]; exact hq), zb_bs, zb_rd (by omega) (by omega), zb_bs, f1 0 41 k (by simp), hR k hk]
    by_cases g : ts_over (wkN k T) p q = R k
    · left
      obtain ⟨M2, n2, r2, f2⟩ := M_goesWeek hwk (by omega) r1 true (by rw [f1 0 0 17 (by simp), hd]; simp)
      rw [if_pos g, n2, zb_bs, nI_1]
      refine ⟨_, rfl, M2, rfl, r2, f1.tr f2, fun i hi => ?_⟩
      rcases Nat.lt_or_ge i k with z | z
      · exact hj i z
      · rw [show i = k by omega]; exact g
    · right
      rw [if_neg g]
      exact ⟨_, rfl, Or.inr ⟨M', rfl, f1, fun a => g (a k hk)⟩⟩) (by
    intro s hs
    obtain ⟨M', rfl, r1, f1, hj⟩ := hs
    unfold sM_wasSo_L2
    simp only []
    rw [f1 0 0 41 (by simp), hr2, if_pos (zb_yle (Nat.le_refl _) (by omega))]
    exact ⟨_, rfl, Or.inl ⟨M', rfl, f1, hj⟩⟩)
  rw [e1, zb_bs]
  rcases e2 with ⟨M', rfl, f, hj⟩ | ⟨M', rfl, f, hj⟩
  · exact ⟨1, M', rfl, f, Or.inl ⟨rfl, hj⟩⟩
  · exact ⟨0, M', rfl, f, Or.inr ⟨rfl, hj⟩⟩
theorem M_kindLoop (h : Inv C M) {j N c p q : Nat} {x : Int32} (hj : (j = 6 ∧ N = 8 ∧ x = 0) ∨ (j = 7 ∧ N = 10 ∧ x = 1)) (hp : p < np (C 1)) (hq : q < np (C 1)) (hc : c < nb (C 1)) {r : Nat} (h12 : r ≤ 12) (hr2 : M 0 0 41 = nI r) : ∃ e, jm_loop (sM_whatKind_L57 x (nI c) (nI p) (nI q)) jm_N (0, 0, M) = some e ∧ isM N (wkP (C 1) (M 0 41) j c p q r) e.1 ∧ sameM M e.2 := by
  obtain ⟨hw, hr, hd⟩ := h.now
  have h10 := hw.1.b.2
  refine zb_ch (fun (k : Nat) (u : Int32 × Int32 × jm_M) => ∃ m M', u = (m, nI k, M') ∧ isM k (wkP (C 1) (M 0 41) j c p q r) m ∧ sameM M M') _ N (by omega) ⟨0, M, rfl, isM_0 _, sameM.rf hd⟩ ?_ ?_
  · intro k hk u hu
    obtain ⟨m, M', rfl, im, sm⟩ := hu
    left
    have hr' := TR_same hr hw.1 sm
    have hd' := sm.2.2.2
    obtain ⟨N1, n1, d1⟩ := M_minds M'
    have hrn := TR_MD hr' hw.1 d1
    have wT : wfT 999 (pt (C 1) j c (nI k)) := wf_kf hw (by omega) hk
    have eN : (if x = 0 then some (8 : Int32) else some 10) = some (nI N) := by
      rcases hj with ⟨-, rfl, rfl⟩ | ⟨-, rfl, rfl⟩ <;> rfl
    have eW : ∃ J, ((j = 6 ∧ J = 5) ∨ (j = 7 ∧ J = 6)) ∧ (if x = 0 then (jm_wa 10 N1 0 5 (nI c) (nI k)).bind (fun M16 => some M16) else (jm_wa 10 N1 0 6 (nI c) (nI k)).bind (fun M17 => some M17)) = some (jm_up N1 0 J c (nI k)) := by
      rcases hj with ⟨h1, -, rfl⟩ | ⟨h1, -, rfl⟩
      · exact ⟨5, by omega, by rw [if_pos rfl, zb_wa (by omega) (by omega), zb_bs]⟩
      · exact ⟨6, by omega, by rw [if_neg (by decide), zb_wa (by omega) (by omega), zb_bs]⟩
    obtain ⟨J, hJ, eW⟩ := eW
    have hrt : TR (pt (C 1) j c (nI k)) (jm_up N1 0 J c (nI k) 0) := TR_upJ hrn (by omega)
    have hk41 : ∀ a, jm_up N1 0 J c (nI k) 0 41 a = M 0 41 a := fun a => by rw [zb_up_n (by omega), d1.2.2 0 41 a (by simp), sm.2.2.1 0 41 a (by simp)]
    have hz41 : jm_up N1 0 J c (nI k) 0 0 41 = nI r := by rw [zb_up_n (by omega), d1.2.2 0 0 41 (by simp), sm.2.2.1 0 0 41 (by simp)]; exact hr2
    obtain ⟨b, N2, n2, f2, hb⟩ := M_wasSo (R := M 0 41) wT hrt (by rw [zb_up_n (by omega), d1.d]; exact hd') (by rw [np_pt (by omega)]; exact hp) (by rw [np_pt (by omega)]; exact hq) h12 hz41 (fun i _ => hk41 i)
    obtain ⟨N3, n3, s3⟩ := M_forgets d1 (mF.tr (mF.up (Or.inl (by simp; omega))) f2.goes)
    unfold sM_whatKind_L57
    simp only []
    rw [eN, zb_bs, if_neg (zb_nle hk (by omega)), n1, zb_bs, eW, zb_bs, n2, zb_bs]
    simp only []
    rcases hb with ⟨rfl, hb⟩ | ⟨rfl, hb⟩
    · rw [if_neg (by decide), zb_bs, zb_bs, n3, zb_bs, nI_1]
      exact ⟨_, rfl, _, _, rfl, isM_add (by omega) im hb, sm.tr s3⟩
    · rw [if_pos rfl, zb_bs, zb_bs, n3, zb_bs, nI_1]
      exact ⟨_, rfl, _, _, rfl, isM_not im hb, sm.tr s3⟩
  · intro u hu
    obtain ⟨m, M', rfl, im, sm⟩ := hu
    have eN : (if x = 0 then some (8 : Int32) else some 10) = some (nI N) := by
      rcases hj with ⟨-, rfl, rfl⟩ | ⟨-, rfl, rfl⟩ <;> rfl
    unfold sM_whatKind_L57
    simp only []
    rw [eN, zb_bs, if_pos (zb_yle (Nat.le_refl _) (by omega))]
    exact ⟨_, rfl, im, sm⟩
theorem F_kindLoop {j N c p q r : Nat} (hj : (j = 6 ∧ N = 8) ∨ (j = 7 ∧ N = 10)) (hw : wfT 999 (C 4)) (z4 : ZT (C 4)) (hp : p < np (C 4)) (hq : q < np (C 4)) (hc : c < nb (C 4)) (h12 : r ≤ 12) : ∃ m T', jm_loop (sF_bitsBy_L49 (nI r) (0, 10) (nI N) (4, j) (nI c) (nI p) (nI q)) jm_N (((1 : Int32) <<< (nI N &&& 31)) - 1, 0, C) = some (m, stT C 4 T') ∧ ZT T' ∧ isM N (wkP (C 4) (C 0 10) j c p q r) m := by
  have h6 := hw.1.p.2
  have h10 := hw.1.b.2
  obtain ⟨e, e1, m, T', e2, e3, e4⟩ := zb_ch (f := sF_bitsBy_L49 (nI r) (0, 10) (nI N) (4, j) (nI c) (nI p) (nI q)) (s := (((1 : Int32) <<< (nI N &&& 31)) - 1, 0, C)) (fun (i : Nat) (u : Int32 × Int32 × jm_M) => ∃ m T', u = (m, nI i, stT C 4 T') ∧ ZT T' ∧ (∀ y, pt T' j c y = pt (wkN i (C 4)) j c y) ∧ isM N (wkP (C 4) (C 0 10) j c p q i) m)
    (fun e => ∃ m T', e = (m, stT C 4 T') ∧ ZT T' ∧ isM N (wkP (C 4) (C 0 10) j c p q r) m) r (by omega) ⟨_, C 4, by rw [stT_self]; rfl, z4, fun _ => rfl, isM_iff (isM_full (by omega)) (fun v hv => ⟨fun _ i hi => by omega, fun _ => trivial⟩)⟩ (by
    intro i hi u hu
    obtain ⟨m, T', rfl, zT, hpt, im⟩ := hu
    left
    unfold sF_bitsBy_L49
    simp only []
    rw [if_neg (zb_nle hi (by omega)), show jm_len jm_LC (0, 10) = some 12 from rfl, zb_bs, if_neg (zb_nle (show i < 12 by omega) (by omega))]
    have wfv : ∀ v, v < N → wfT (999 + i) (pt (wkN i (C 4)) j c (nI v)) := fun v hv => wf_kf (wf_wkN i hw) hj hv
    obtain ⟨e, e1, m', T'', e2, z2, hpt2, im2⟩ := zb_ch (f := sF_bitsBy_L65 (nI N) (4, j) (nI c) (nI p) (nI q) (0, 10) (m, nI i, stT C 4 T')) (s := (m, 0, stT C 4 T')) (fun (v : Nat) (u : Int32 × Int32 × jm_M) => ∃ m' T'', u = (m', nI v, stT C 4 T'') ∧ ZT T'' ∧ (∀ y, pt T'' j c y = pt (wkN i (C 4)) j c y) ∧ isM N (fun a => wkP (C 4) (C 0 10) j c p q i a ∧ (a < v → wkV (C 4) j c p q i a = C 0 10 i)) m')
      (fun e => ∃ m' T'', e = (m', stT C 4 T'') ∧ ZT T'' ∧ (∀ y, pt T'' j c y = pt (wkN i (C 4)) j c y) ∧ isM N (wkP (C 4) (C 0 10) j c p q (i + 1)) m') N (by omega) ⟨m, T', rfl, zT, hpt, isM_iff im (fun v hv => ⟨fun a => ⟨a, fun b => by omega⟩, fun a => a.1⟩)⟩ (by
      intro v hv u hu
      obtain ⟨m', T'', rfl, z2, hpt2, im2⟩ := hu
      left
      have eV : ts_over (pt T'' j c (nI v)) p q = wkV (C 4) j c p q i v := by
        unfold wkV
        rw [hpt2, wkN_pt (by omega)]
      unfold sF_bitsBy_L65
      simp only []
      rw [if_neg (zb_nle hv (by omega)), show jm_len jm_LC (4, j) = some 10 by (rcases hj with ⟨rfl, -⟩ | ⟨rfl, -⟩ <;> rfl), zb_bs, wa_st (by omega) (by omega), zb_bs, stT_s, stT_2, T_overOf (by rw [stT_s, hpt2]; exact (wfv v hv).1) (by omega) (by omega), zb_bs, show jm_len jm_LC (0, 10) = some 12 from rfl, zb_bs, zb_rd (show i < 12 by omega) (by omega), zb_bs, stT_s, stT_n (show ¬ (0 : Nat) = 4 by omega), eV, nI_1]
      have zz : ZT (pt T'' j c (nI v)) := ZT_pt z2 (Or.inr (Or.inr ⟨by omega, by omega⟩))
      have pp : ∀ y, pt (pt T'' j c (nI v)) j c y = pt (wkN i (C 4)) j c y := fun y => by rw [pt_2]; exact hpt2 y
      by_cases g : wkV (C 4) j c p q i v = C 0 10 i
      · rw [if_pos g]
        refine ⟨_, rfl, _, _, rfl, zz, pp, isM_iff im2 (fun a ha => ⟨fun b => ⟨b.1, fun d => ?_⟩, fun b => ⟨b.1, fun d => b.2 (by omega)⟩⟩)⟩
        rcases Nat.lt_or_ge a v with f | f
        · exact b.2 f
        · rw [show a = v by omega]; exact g
      · rw [if_neg g, zb_bs]
        refine ⟨_, rfl, _, _, rfl, zz, pp, isM_iff (isM_clr (by omega) im2 hv) (fun a ha => ⟨fun b => ⟨b.1.1, fun d => ?_⟩, fun b => ⟨⟨b.1, fun d => b.2 (by omega)⟩, fun f => ?_⟩⟩)⟩
        · exact b.1.2 (by have := b.2; omega)
        · rw [f] at b; exact g (b.2 (by omega))) (by
      intro u hu
      obtain ⟨m', T'', rfl, z2, hpt2, im2⟩ := hu
      unfold sF_bitsBy_L65
      simp only []
      rw [if_pos (zb_yle (Nat.le_refl _) (by omega))]
      refine ⟨_, rfl, m', T'', rfl, z2, hpt2, isM_iff im2 (fun a ha => ⟨fun b k hk => ?_, fun b => ⟨fun k hk => b k (by omega), fun _ => b i (by omega)⟩⟩)⟩
      rcases Nat.lt_or_ge k i with f | f
      · exact b.1 k f
      · rw [show k = i by omega]; exact b.2 ha)
    rw [e1, zb_bs, e2]
    simp only []
    have hcT : ctT T'' := by
      have e := hpt2 (nI 0)
      have w := (wfv 0 (by omega)).1
      rw [← e] at w
      exact ct_j w (by rw [pt_j (by omega)]) (by rw [pt_j (by omega)]) (by rw [pt_j (by omega)])
    rw [T_weekPasses (by rw [stT_s]; exact hcT) true (by simp), zb_bs, stT_s, stT_2, nI_1]
    refine ⟨_, rfl, _, _, rfl, ZT_wkS z2 true hcT, fun y => ?_, im2⟩
    show pt (wkS true T'') j c y = pt (wkS true (wkN i (C 4))) j c y
    rw [← wkS_pt (by omega), hpt2, wkS_pt (by omega)]) (by
    intro u hu
    obtain ⟨m, T', rfl, zT, hpt, im⟩ := hu
    unfold sF_bitsBy_L49
    simp only []
    rw [if_pos (zb_yle (Nat.le_refl _) (by omega))]
    exact ⟨_, rfl, m, T', rfl, zT, im⟩)
  subst e2
  exact ⟨m, T', e1, e3, e4⟩
theorem st_whatKind (h : Inv C M) (x y z a : Int32) : SC (sW_whatKind C x y z a) (sM_whatKind M x y z a) := by
  obtain ⟨hw, hr, hd⟩ := h.now
  have z1 := h.zt (t := 1) (by omega) (by omega)
  unfold sW_whatKind sM_whatKind
  rw [W_areTwo hw.1, M_areTwo hw.1 hr, T_hasBook_x hw.1, M_isBook_x hw.1 hr, W_neither, M_isIn01]
  simp only [zb_bs]
  by_cases h2 : ar2 (C 1) x y
  · obtain ⟨p, q, hp, hq, -, rfl, rfl⟩ := is2 hw.1 h2
    rw [if_pos h2, zb_i10, zb_i10]
    by_cases h3 : noB (C 1) z
    · rw [if_pos h3, zb_i00, zb_i00, zb_bs, if_neg (by decide), W_refuse C (k := 1) rfl (by omega), M_no M (k := 1) rfl (by omega)]
      simp only [zb_bs]
      exact SC.mk (Inv_ref h (by omega))
    · obtain ⟨c, hc, rfl⟩ := isB hw.1 h3
      rw [if_neg h3, zb_i10, zb_i10]
      by_cases h5 : a = 0 ∨ a = 1
      · obtain ⟨r, r1, r2, r3, r4⟩ := h.2.2.2.2.1
        have e0 : stT C 4 (C 1) 0 0 10 = nI r := by rw [stT_n (by omega)]; exact r2
        have key : ∀ j N (n8 : Int32), n8 = nI N → ((j = 6 ∧ N = 8 ∧ a = 0) ∨ (j = 7 ∧ N = 10 ∧ a = 1)) → SC (((jm_loop (sF_bitsBy_L49 (nI r) (0, 10) n8 (4, j) (nI c) (nI p) (nI q)) jm_N (((1 : Int32) <<< (n8 &&& 31)) - 1, 0, stT C 4 (C 1))).bind (fun e21 => some (e21.1, e21.2))).bind (fun r12 => some (r12.1, r12.2))) ((jm_loop (sM_whatKind_L57 a (nI c) (nI p) (nI q)) jm_N (0, 0, M)).bind (fun e23 => some (e23.1, e23.2))) := by
          intro j N n8 h8 hj
          subst h8
          obtain ⟨m, T', c1, c2, c3⟩ := F_kindLoop (C := stT C 4 (C 1)) (j := j) (N := N) (c := c) (p := p) (q := q) (r := r) (by omega) (by rw [stT_s]; exact hw) (by rw [stT_s]; exact z1) (by rw [stT_s]; exact hp) (by rw [stT_s]; exact hq) (by rw [stT_s]; exact hc) r1
          obtain ⟨e, m1, m2, m3⟩ := M_kindLoop h hj hp hq hc r1 r3
          rw [stT_s, stT_n (show ¬ (0 : Nat) = 4 by omega)] at c3
          have c4 := isM_iff (Q := wkP (C 1) (M 0 41) j c p q r) c3 (fun v hv => ⟨fun b i hi => by rw [← r4 i hi]; exact b i hi, fun b i hi => by rw [r4 i hi]; exact b i hi⟩)
          rw [c1, zb_bs, zb_bs, m1, zb_bs, isM_un c4 m2, stT_2]
          exact SC.mk (Inv_same h (sameC_mind h c2) m3)
        rw [if_pos h5, if_pos h5, zb_i00, zb_i10, zb_bs, if_pos rfl, F_think (by omega) (h.zt (by omega) (by omega)) z1, zb_bs]
        unfold sF_bitsBy
        rcases h5 with rfl | rfl
        · rw [if_pos rfl, zb_bs, e0, if_neg (by decide), zb_bs, if_neg (by decide), zb_bs, zb_bs]
          exact key 6 8 8 rfl (Or.inl ⟨rfl, rfl, rfl⟩)
        · rw [if_neg (by decide), zb_bs, e0, if_pos rfl, zb_bs, if_pos rfl, zb_bs, zb_bs]
          exact key 7 10 10 rfl (Or.inr ⟨rfl, rfl, rfl⟩)
      · rw [if_neg h5, if_neg h5, zb_i10, zb_i00, zb_bs, if_neg (by decide), W_refuse C (k := 2) rfl (by omega), M_no M (k := 2) rfl (by omega)]
        simp only [zb_bs]
        exact SC.mk (Inv_ref h (by omega))
  · rw [if_neg h2, zb_i00, zb_i00, zb_bs, if_neg (by decide), W_refuse C (k := 1) rfl (by omega), M_no M (k := 1) rfl (by omega)]
    simp only [zb_bs]
    exact SC.mk (Inv_ref h (by omega))
end
