/-! what to buy: the class -/
def fr16 (C C' : jm_M) : Prop := ∀ t, ¬ t = 16 → C' t = C t
theorem fr16.up {C C' : jm_M} (h : fr16 C C') {j i : Nat} {v : Int32} : fr16 C (jm_up C' 16 j i v) := by
  intro t ht
  rw [← h t ht]
  funext b k
  exact zb_up_n (by omega)
theorem fr16.same {C C' M : jm_M} (hI : Inv C M) (h : fr16 C C') : sameC C C' :=
  ⟨fun t h1 h2 _ _ => h t (by omega), by rw [h 14 (by omega)], by rw [h 14 (by omega)], fun k => by rw [h 0 (by omega)], by rw [h 0 (by omega)], by rw [h 0 (by omega)], by rw [h 3 (by omega)]; exact hI.zt (by omega) (by omega), by rw [h 4 (by omega)]; exact hI.zt (by omega) (by omega), by rw [h 17 (by omega)]⟩
noncomputable def pv (T : jm_T) (r : Option Nat) : Int32 := match r with
  | none => -9
  | some b => nI (pS T b)
noncomputable def tkV (T : jm_T) (C : jm_M) (k : Nat) (r : Option Nat) : jm_M := match r with
  | none => jm_up (jm_up C 16 0 2 (nI k)) 16 0 3 (nI (pS T k))
  | some b => if kS T k < kS T b then jm_up (jm_up C 16 0 2 (nI k)) 16 0 3 (nI (pS T k)) else C
section
variable {C M : jm_M} {w : Nat}
theorem B_offer (hw : wfT w (C 1)) (hw2 : w < 1000000) {p q : Nat} : ∃ o C', sB_offer C 1 (nI p) (nI q) = some (nI o, C') ∧ o < 2 ^ nb (C 1) ∧ (∀ b, b < nb (C 1) → (o.testBit b = true ↔ (C 1 8 b = 9 ∧ ¬ ts_on (C 1) p q b))) ∧ fr16 C C' ∧ ∀ b, b < nb (C 1) → C' 16 1 b = nI (bP (C 1) b) ∧ C' 16 2 b = nI (bH (C 1) p q b) := by
  have h := hw.1.b
  unfold sB_offer
  obtain ⟨e, e1, m, C', rfl, ⟨o, o1, rfl, o3⟩, f1, g1⟩ := zb_ch (f := sB_offer_L6 1 (nI p) (nI q)) (s := (0, 0, C)) (fun (k : Nat) (u : Int32 × Int32 × jm_M) => ∃ m C', u = (m, nI k, C') ∧ isM k (fun b => C 1 8 b = 9 ∧ ¬ ts_on (C 1) p q b) m ∧ fr16 C C' ∧ ∀ b, b < k → C' 16 1 b = nI (bP (C 1) b) ∧ C' 16 2 b = nI (bH (C 1) p q b))
    (fun e => ∃ m C', e = (m, C') ∧ isM (nb (C 1)) (fun b => C 1 8 b = 9 ∧ ¬ ts_on (C 1) p q b) m ∧ fr16 C C' ∧ ∀ b, b < nb (C 1) → C' 16 1 b = nI (bP (C 1) b) ∧ C' 16 2 b = nI (bH (C 1) p q b)) (nb (C 1)) (by omega) ⟨0, C, rfl, isM_0 _, fun _ _ => rfl, fun b hb => by omega⟩ (by
    intro k hk u hu
    obtain ⟨m, C', rfl, hm, f1, g1⟩ := hu
    left
    unfold sB_offer_L6
    simp only []
    rw [f1 1 (by omega), h.1, if_neg (zb_nle hk (by omega)), T_priceOf (by omega), zb_bs, f1 1 (by omega), zb_wa (by omega) (by omega), zb_bs]
    have f2 := f1.up (j := 1) (i := k) (v := ts_price (C 1) k)
    rw [T_comesTo (by rw [f2 1 (by omega)]; exact hw.1) (by omega), zb_bs, f2 1 (by omega), zb_wa (by omega) (by omega), zb_bs]
    have f3 := f2.up (j := 2) (i := k) (v := ts_comes (C 1) p q k)
    rw [f3 1 (by omega), zb_rd (by omega) (by omega), zb_bs, T_isOnPan (by omega), zb_bs, f3 1 (by omega), nI_1]
    have g2 : ∀ b, b < k + 1 → jm_up (jm_up C' 16 1 k (ts_price (C 1) k)) 16 2 k (ts_comes (C 1) p q k) 16 1 b = nI (bP (C 1) b) ∧ jm_up (jm_up C' 16 1 k (ts_price (C 1) k)) 16 2 k (ts_comes (C 1) p q k) 16 2 b = nI (bH (C 1) p q b) := by
      intro b hb
      rcases Nat.lt_or_ge b k with z | z
      · rw [zb_up_n (by omega), zb_up_n (by omega), zb_up_n (by omega), zb_up_n (by omega)]
        exact g1 b z
      · have : b = k := by omega
        subst this
        rw [zb_up_n (by omega), zb_up_s, zb_up_s]
        exact ⟨(bP_at hw hk).1, (bH_at hw hw2 hk).1⟩
    by_cases c : C 1 8 k = 9
    · rw [if_pos c]
      by_cases d : ts_on (C 1) p q k
      · rw [if_pos d, zb_i10]
        exact ⟨_, rfl, m, _, rfl, by rw [← Int32.or_zero (a := m)]; exact isM_not hm (fun z => z.2 d), f3, g2⟩
      · rw [if_neg d, zb_i00, zb_bs]
        exact ⟨_, rfl, _, _, rfl, isM_add (by omega) hm ⟨c, d⟩, f3, g2⟩
    · rw [if_neg c]
      exact ⟨_, rfl, m, _, rfl, by rw [← Int32.or_zero (a := m)]; exact isM_not hm (fun z => c z.1), f3, g2⟩) (by
    intro u hu
    obtain ⟨m, C', rfl, hm, f1, g1⟩ := hu
    unfold sB_offer_L6
    simp only []
    rw [f1 1 (by omega), h.1, if_pos (zb_yle (Nat.le_refl _) (by omega))]
    exact ⟨_, rfl, m, C', rfl, hm, f1, g1⟩)
  rw [e1, zb_bs]
  exact ⟨o, C', rfl, o1, o3, f1, g1⟩
theorem B_sumOf {j n s : Nat} {f : Nat → Nat} (hj : j = 1 ∨ j = 2) (hn : n ≤ 10) (hs : s < 1024) (hf : ∀ b, b < n → C 16 j b = nI (f b)) : sB_sumOf C (16, j) (nI s) (nI n) = some (nI (sm (fun b => s.testBit b = true) f n)) := by
  have hl : jm_len jm_LC (16, j) = some 10 := by rcases hj with rfl | rfl <;> rfl
  unfold sB_sumOf
  refine zb_forB (fun k => (nI (sm (fun b => s.testBit b = true) f k), nI k)) _ n rfl ?_ ?_ (by omega) rfl
  · intro k hk
    unfold sB_sumOf_L6
    simp only []
    rw [if_neg (zb_nle hk (by omega)), hl, zb_bs, if_neg (zb_nle (show k < 10 by omega) (by omega)), zb_bs, zb_rd (by omega) (by omega), zb_bs, hf k hk, sm_S, nI_1, nI_add, zb_bs]
    have e := zb_hb k (by omega) s hs
    by_cases c : s.testBit k = true
    · rw [if_pos (e.2 c), if_pos c]
    · rw [if_neg (fun z => c (e.1 z)), if_neg c]
  · unfold sB_sumOf_L6
    simp only []
    rw [if_pos (zb_yle (Nat.le_refl _) (by omega))]
theorem B_take {T : jm_T} (hw : wfT w T) (hw2 : w < 1000000) {k : Nat} (hk : k < 1024) {r : Option Nat} (hr : ∀ b, r = some b → b < 1024) (h2 : C 16 0 2 = zb_o r) (h3 : C 16 0 3 = pv T r) : sB_takeIfBetter C (nI k) (nI (pS T k)) = some (tkV T C k r) := by
  unfold sB_takeIfBetter
  rw [wf_up, zb_bs, wf_up, zb_bs]
  cases r with
  | none => exact if_pos h2
  | some b =>
    have hb := hr b rfl
    have h2' : C 16 0 2 = nI b := h2
    have h3' : C 16 0 3 = nI (pS T b) := h3
    obtain ⟨a1, a2⟩ := bS_at hk
    obtain ⟨b1, b2⟩ := bS_at hb
    have pk := (sums_le hw hw2 0 0 k).1
    have pb := (sums_le hw hw2 0 0 b).1
    have e := kS_lt (T := T) hk hb
    have b1' : ts_bc (C 16 0 2) = nI (bS b) := by rw [h2']; exact b1
    show _ = some (if kS T k < kS T b then _ else C)
    rw [if_neg (by rw [h2']; exact zb_m9 (by omega)), J_bitCount, J_bitCount, zb_bs, zb_bs]
    by_cases c : pS T k < pS T b
    · rw [if_pos (by rw [h3', zb_lt (by omega) (by omega)]; exact c), if_pos (e.mpr (Or.inl c))]
    · rw [if_neg (by rw [h3', zb_lt (by omega) (by omega)]; exact c)]
      by_cases d : pS T k = pS T b
      · rw [if_pos (by rw [h3', d])]
        by_cases f : bS k < bS b
        · rw [if_neg (by rw [b1', a1]; exact zb_nle f (by omega)), if_pos (e.mpr (Or.inr ⟨d, f⟩))]
        · rw [if_pos (by rw [b1', a1]; exact zb_yle (by omega) (by omega)), if_neg (fun z => (e.mp z).elim (fun z => c z) (fun z => f z.2))]
      · rw [if_neg (by rw [h3', zb_eq (by omega) (by omega)]; exact d), if_neg (fun z => (e.mp z).elim (fun z => c z) (fun z => d z.1))]
theorem B_seek (hw : wfT w (C 1)) (hw2 : w < 1000000) {p q : Nat} (hp : p < np (C 1)) (hq : q < np (C 1)) : ∃ r C', sB_seek C 1 (nI p) (nI q) = some C' ∧ fr16 C C' ∧ argm (feaC (C 1) p q) (kS (C 1)) (2 ^ nb (C 1)) r ∧ C' 16 0 2 = zb_o r ∧ C' 16 0 3 = pv (C 1) r := by
  have h := hw.1.b
  have h6 := hw.1.p.2
  have hN := zb_two (nb (C 1)) h.2
  obtain ⟨o, C1, o1, o2, o3, o4, o5⟩ := B_offer (p := p) (q := q) hw hw2
  unfold sB_seek
  rw [T_overOf hw.1 (by omega) (by omega), zb_bs, zb_bs, o1, zb_bs]
  simp only []
  rw [wf_up, zb_bs, wf_up, zb_bs, ov_0 hw hw2 hp hq]
  have cs := (cS_at hw hp hq).2
  obtain ⟨e, e1, r, e2⟩ := zb_ch (f := sB_seek_L33 1 (nI o, C1) (-(nI (mS (C 1) p q) - nI (cS (C 1) p q)))) (s := (0, jm_up (jm_up C1 16 0 2 (-9)) 16 0 3 (-9))) (fun (k : Nat) (u : Int32 × jm_M) => ∃ C' r, u = (nI k, C') ∧ fr16 C C' ∧ (∀ b, b < nb (C 1) → C' 16 1 b = nI (bP (C 1) b) ∧ C' 16 2 b = nI (bH (C 1) p q b)) ∧ argm (feaC (C 1) p q) (kS (C 1)) k r ∧ C' 16 0 2 = zb_o r ∧ C' 16 0 3 = pv (C 1) r)
    (fun C' => ∃ r, fr16 C C' ∧ argm (feaC (C 1) p q) (kS (C 1)) (2 ^ nb (C 1)) r ∧ C' 16 0 2 = zb_o r ∧ C' 16 0 3 = pv (C 1) r) (2 ^ nb (C 1)) (by omega)
    ⟨_, none, rfl, o4.up.up, fun b hb => by
      rw [zb_up_n (by omega), zb_up_n (by omega), zb_up_n (by omega), zb_up_n (by omega)]
      exact o5 b hb, fun k hk => by omega, by rw [zb_up_n (by omega), zb_up_s]; rfl, by rw [zb_up_s]; rfl⟩ (by
    intro k hk u hu
    obtain ⟨C', r, rfl, f1, g1, a1, r2, r3⟩ := hu
    left
    have hlt : ∀ b, r = some b → b < 1024 := fun b e => by subst e; have := a1.1; omega
    obtain ⟨s1, s2, s3, s4⟩ := sums_le hw hw2 p q k
    have esub : (nI k &&& (nI o ^^^ (-1)) = 0) = (∀ b, k.testBit b = true → C 1 8 b = 9 ∧ ¬ ts_on (C 1) p q b) := by
      rw [sub_z (by omega) (by omega)]
      exact propext ⟨fun z b hb => (o3 b (tb_lt hk hb)).1 (z b hb), fun z b hb => (o3 b (tb_lt hk hb)).2 (z b hb)⟩
    have elt := zb_sNc (h := hS (C 1) p q k) (m := mS (C 1) p q) (c := cS (C 1) p q) (by omega) (by omega) (by omega)
    unfold sB_seek_L33
    simp only []
    rw [f1 1 (by omega), h.1, zb_shl _ h.2, if_neg (zb_nle hk (by omega)), B_sumOf (Or.inr rfl) h.2 (by omega) (fun b hb => (g1 b hb).2), zb_bs, B_sumOf (Or.inl rfl) h.2 (by omega) (fun b hb => (g1 b hb).1), zb_bs]
    have et := B_take (C := C') hw hw2 (k := k) (by omega) hlt r2 r3
    rw [show sm (fun b => k.testBit b = true) (fun b => bP (C 1) b) (nb (C 1)) = pS (C 1) k from rfl, show sm (fun b => k.testBit b = true) (fun b => bH (C 1) p q b) (nb (C 1)) = hS (C 1) p q k from rfl, et, zb_bs, nI_1]
    by_cases c1 : ∀ b, k.testBit b = true → C 1 8 b = 9 ∧ ¬ ts_on (C 1) p q b
    · rw [if_pos (esub.mpr c1)]
      by_cases c2 : hS (C 1) p q k + mS (C 1) p q < cS (C 1) p q
      · rw [if_pos (elt.mpr c2)]
        exact ⟨_, rfl, C', r, rfl, f1, g1, argm_skip a1 (fun z => by have := z.2; omega), r2, r3⟩
      · have yf : feaC (C 1) p q k := ⟨c1, by omega⟩
        rw [if_neg (fun z => c2 (elt.mp z))]
        have fin : ∀ b, b < nb (C 1) → jm_up (jm_up C' 16 0 2 (nI k)) 16 0 3 (nI (pS (C 1) k)) 16 1 b = nI (bP (C 1) b) ∧ jm_up (jm_up C' 16 0 2 (nI k)) 16 0 3 (nI (pS (C 1) k)) 16 2 b = nI (bH (C 1) p q b) := fun b hb => by
          rw [zb_up_n (by omega), zb_up_n (by omega), zb_up_n (by omega), zb_up_n (by omega)]
          exact g1 b hb
        cases r with
        | none =>
          exact ⟨_, rfl, jm_up (jm_up C' 16 0 2 (nI k)) 16 0 3 (nI (pS (C 1) k)), some k, rfl, f1.up.up, fin, argm_new a1 yf (fun b e => by cases e), by rw [zb_up_n (by omega), zb_up_s]; rfl, by rw [zb_up_s]; rfl⟩
        | some b =>
          show ∃ s', some (Sum.inl (nI (k + 1), if kS (C 1) k < kS (C 1) b then _ else C')) = _ ∧ _
          by_cases c3 : kS (C 1) k < kS (C 1) b
          · rw [if_pos c3]
            exact ⟨_, rfl, _, some k, rfl, f1.up.up, fin, argm_new a1 yf (fun c e => by cases e; exact c3), by rw [zb_up_n (by omega), zb_up_s]; rfl, by rw [zb_up_s]; rfl⟩
          · rw [if_neg c3]
            exact ⟨_, rfl, C', some b, rfl, f1, g1, argm_old a1 (by omega), r2, r3⟩
    · rw [if_neg (fun z => c1 (esub.mp z))]
      exact ⟨_, rfl, C', r, rfl, f1, g1, argm_skip a1 (fun z => c1 z.1), r2, r3⟩) (by
    intro u hu
    obtain ⟨C', r, rfl, f1, g1, a1, r2, r3⟩ := hu
    unfold sB_seek_L33
    simp only []
    rw [f1 1 (by omega), h.1, zb_shl _ h.2, if_pos (zb_yle (Nat.le_refl _) (by omega))]
    exact ⟨_, rfl, r, f1, a1, r2, r3⟩)
  rw [e1, zb_bs]
  exact ⟨r, e, rfl, e2⟩
theorem st_buy (h : Inv C M) (x y z : Int32) : SC (sW_buy C x y z) (sM_buy M x y z) := by
  obtain ⟨hw, hr, hd⟩ := h.now
  have h10 := hw.1.b.2
  have hN := zb_two (nb (C 1)) h10
  unfold sW_buy sM_buy
  rw [W_areTwo hw.1, M_areTwo hw.1 hr, W_neither, M_isIn01]
  simp only [zb_bs]
  by_cases h2 : ar2 (C 1) x y
  · obtain ⟨p, q, hp, hq, -, rfl, rfl⟩ := is2 hw.1 h2
    rw [if_pos h2, zb_i10, zb_i10]
    by_cases h5 : z = 0 ∨ z = 1
    · obtain ⟨r, C', b1, b2, b3, b4, b5⟩ := B_seek hw (by omega) hp hq
      obtain ⟨o, o1, o2, o3⟩ := M_ownedBy hw.1 hr
      obtain ⟨e, e1, r', rfl, e3⟩ := M_buyLoop hw (by omega) hr hp hq o2 o3
      have er : r' = r := argm_un e3 (fea_more hw b3)
      subst er
      have hI := Inv_same h (b2.same h) (sameM.rf hd)
      rw [if_pos h5, if_pos h5, zb_i00, zb_i10, zb_bs, if_pos rfl, b1, zb_bs, o1, zb_bs, e1, zb_bs, b4, b5]
      cases r' with
      | none =>
        rw [if_neg (show ¬ (0 : Int32) ≤ zb_o none by decide)]
        by_cases g : z = 0
        · rw [if_pos g]; exact SC.mk hI
        · rw [if_neg g]; exact SC.mk hI
      | some b =>
        have hb := b3.1
        rw [if_pos (show (0 : Int32) ≤ zb_o (some b) from zb_nd2 (by omega))]
        show SC _ (if z = 0 then some (nI b, M) else (sM_pricesOf M (nI b)).bind fun r18 => some (r18, M))
        rw [M_pricesOf hw hr (by omega), zb_bs]
        by_cases g : z = 0
        · rw [if_pos g, if_pos g]; exact SC.mk hI
        · rw [if_neg g, if_neg g]; exact SC.mk hI
    · rw [if_neg h5, if_neg h5, zb_i10, zb_i00, zb_bs, if_neg (by decide), W_refuse C (k := 2) rfl (by omega), M_no M (k := 2) rfl (by omega)]
      simp only [zb_bs]
      exact SC.mk (Inv_ref h (by omega))
  · rw [if_neg h2, zb_i00, zb_i00, zb_bs, if_neg (by decide), W_refuse C (k := 1) rfl (by omega), M_no M (k := 1) rfl (by omega)]
    simp only [zb_bs]
    exact SC.mk (Inv_ref h (by omega))
end
