/-! the heaviest: the class's row -/
def fr9 (C C' : jm_M) : Prop := ∀ a b k, ¬ (a = 0 ∧ b = 9) → C' a b k = C a b k
theorem fr9.t {C C' : jm_M} (h : fr9 C C') {t : Nat} (ht : ¬ t = 0) : C' t = C t := by
  funext b k
  exact h t b k (fun e => ht e.1)
theorem fr9.same {C C' M : jm_M} (hI : Inv C M) (h : fr9 C C') : sameC C C' :=
  ⟨fun t h1 _ _ _ => h.t (by omega), by rw [h.t (by omega)], by rw [h.t (by omega)], fun k => h 0 0 k (by omega), by funext k; exact h 0 10 k (by omega), by funext k; exact h 0 12 k (by omega), by rw [h.t (by omega)]; exact hI.zt (by omega) (by omega), by rw [h.t (by omega)]; exact hI.zt (by omega) (by omega), by rw [h.t (by omega)]⟩
theorem fr9.wa {C C' : jm_M} (h : fr9 C C') {i : Nat} {v : Int32} : fr9 C (jm_up C' 0 9 i v) := by
  intro a b k q
  rw [zb_up_n (fun e => q ⟨e.1, e.2.1⟩)]
  exact h a b k q
section
variable {C M : jm_M}
theorem W_orderIn {w : Nat} (hw : wfT w (C 1)) (hw2 : w < 1000000) {p q k m : Nat} {R : Nat → Nat} {C0 : jm_M} {x : Int32} (hk : k < nb (C 1)) (hR : srt (hK (C 1) p q) (ts_on (C 1) p q) k m R) (hf : fr9 C C0) (h9 : ∀ i, i < m → C0 0 9 i = nI (R i)) : ∃ e, jm_loop (sW_orderPan_L34 (nI p) (nI q) (x, nI k, C0)) jm_N (nI m, C0) = some e ∧ ∃ s C', e = (nI s, C') ∧ fr9 C C' ∧ s ≤ m ∧ (∀ i, i < s → C' 0 9 i = nI (R i)) ∧ (∀ i, s ≤ i → i < m → C' 0 9 (i + 1) = nI (R i) ∧ hK (C 1) p q k < hK (C 1) p q (R i)) ∧ (0 < s → hK (C 1) p q (R (s - 1)) < hK (C 1) p q k) := by
  have h10 := hw.1.b.2
  have hm := hR.1
  refine zb_ch (fun (n : Nat) (u : Int32 × jm_M) => ∃ C' : jm_M, u = (nI (m - n), C') ∧ fr9 C C' ∧ (∀ i, i < m - n → C' 0 9 i = nI (R i)) ∧ (∀ i, m - n ≤ i → i < m → C' 0 9 (i + 1) = nI (R i) ∧ hK (C 1) p q k < hK (C 1) p q (R i))) _ m (by omega) ⟨C0, rfl, hf, h9, fun i h1 h2 => by omega⟩ ?_ ?_
  · intro n hn u hu
    obtain ⟨C', rfl, f1, f2, f3⟩ := hu
    obtain ⟨s, hs⟩ : ∃ s, m - n = s + 1 := ⟨m - n - 1, by omega⟩
    rw [hs] at f2 f3 ⊢
    obtain ⟨r1, r2⟩ := hR.2.1 s (by omega)
    unfold sW_orderPan_L34
    simp only []
    rw [if_neg (show ¬ nI (s + 1) ≤ 0 from zb_nle (b := 0) (by omega) (by omega)), show nI (s + 1) - 1 = nI s from by rw [show (1 : Int32) = nI 1 from rfl, pk_sub (by omega), Nat.add_sub_cancel], zb_rd (by omega) (by omega), zb_bs, f2 s (by omega), W_isHeavier (by rw [f1.t (by omega)]; exact hw) hw2 (by rw [f1.t (by omega)]; exact hk) (by rw [f1.t (by omega)]; omega), zb_bs, f1.t (show ¬ 1 = 0 by omega)]
    by_cases g : hK (C 1) p q k < hK (C 1) p q (R s)
    · left
      rw [if_pos g, zb_i10, zb_bs, zb_wa (by omega) (by omega), zb_bs, show nI (s + 1) + -1 = nI s from pk_m1 s]
      refine ⟨_, rfl, _, by rw [show m - (n + 1) = s by omega], f1.wa, fun i hi => ?_, fun i h1 h2 => ?_⟩
      · rw [zb_up_n (by omega)]; exact f2 i (by omega)
      · rcases Nat.lt_or_ge s i with z | z
        · rw [zb_up_n (by omega)]; exact f3 i (by omega) h2
        · have : i = s := by omega
          subst this
          rw [zb_up_s]; exact ⟨rfl, g⟩
    · right
      rw [if_neg g, zb_i00]
      refine ⟨_, rfl, s + 1, C', rfl, f1, by omega, f2, f3, fun _ => ?_⟩
      rw [Nat.add_sub_cancel]
      have : ¬ hK (C 1) p q (R s) = hK (C 1) p q k := fun e => by
        have := hK_inj hw hw2 (show R s < nb (C 1) by omega) hk e
        omega
      omega
  · intro u hu
    obtain ⟨C', rfl, f1, f2, f3⟩ := hu
    rw [Nat.sub_self] at f2 f3 ⊢
    unfold sW_orderPan_L34
    simp only []
    rw [if_pos (show nI 0 ≤ 0 from by decide)]
    exact ⟨_, rfl, 0, C', rfl, f1, by omega, f2, f3, fun q => by omega⟩
theorem W_orderPan {w : Nat} (hw : wfT w (C 1)) (hw2 : w < 1000000) {p q : Nat} : ∃ m R C', sW_orderPan C (nI p) (nI q) = some (nI m, C') ∧ srt (hK (C 1) p q) (ts_on (C 1) p q) (nb (C 1)) m R ∧ fr9 C C' ∧ ∀ i, i < m → C' 0 9 i = nI (R i) := by
  have h10 := hw.1.b
  unfold sW_orderPan
  obtain ⟨e, e1, m, R, C', rfl, e3, e4, e5⟩ := zb_ch (f := sW_orderPan_L5 (nI p) (nI q)) (s := (0, 0, C)) (fun (k : Nat) (u : Int32 × Int32 × jm_M) => ∃ m R C', u = (nI m, nI k, C') ∧ srt (hK (C 1) p q) (ts_on (C 1) p q) k m R ∧ fr9 C C' ∧ ∀ i, i < m → C' 0 9 i = nI (R i)) (fun e => ∃ m R C', e = (nI m, C') ∧ srt (hK (C 1) p q) (ts_on (C 1) p q) (nb (C 1)) m R ∧ fr9 C C' ∧ ∀ i, i < m → C' 0 9 i = nI (R i)) (nb (C 1)) (by omega)
    ⟨0, fun _ => 0, C, rfl, ⟨Nat.le_refl _, fun i hi => by omega, fun b hb => by omega, fun i j h1 h2 => by omega⟩, fun _ _ _ _ => rfl, fun i hi => by omega⟩ (by
    intro k hk u hu
    obtain ⟨m, R, C', rfl, s1, f1, g1⟩ := hu
    left
    unfold sW_orderPan_L5
    simp only []
    rw [f1.t (show ¬ 1 = 0 by omega), h10.1, if_neg (zb_nle hk (by omega)), T_isOnPan (by omega), zb_bs, f1.t (show ¬ 1 = 0 by omega), nI_1]
    by_cases o : ts_on (C 1) p q k
    · obtain ⟨e, e1, s, C2, rfl, f2, z1, z2, z3, z4⟩ := W_orderIn (x := nI m) hw hw2 hk s1 f1 g1
      rw [if_pos o, zb_i10, e1, zb_bs]
      simp only []
      have hm := s1.1
      rw [zb_wa (by omega) (by omega), zb_bs, nI_1]
      refine ⟨_, rfl, m + 1, insR R s k, _, rfl, srt_ins s1 o z1 (fun i h1 h2 => (z3 i h1 h2).2) z4, f2.wa, fun i hi => ?_⟩
      unfold insR
      rcases Nat.lt_trichotomy i s with z | z | z
      · rw [if_pos z, zb_up_n (by omega)]; exact z2 i z
      · subst z
        rw [if_neg (by omega), if_pos rfl, zb_up_s]
      · rw [if_neg (by omega), if_neg (by omega), zb_up_n (by omega)]
        have := (z3 (i - 1) (by omega) (by omega)).1
        rw [show i - 1 + 1 = i by omega] at this
        exact this
    · rw [if_neg o, zb_i00]
      exact ⟨_, rfl, m, R, C', rfl, srt_skip s1 o, f1, g1⟩) (by
    intro u hu
    obtain ⟨m, R, C', rfl, s1, f1, g1⟩ := hu
    unfold sW_orderPan_L5
    simp only []
    rw [f1.t (show ¬ 1 = 0 by omega), h10.1, if_pos (zb_yle (Nat.le_refl _) (by omega))]
    exact ⟨_, rfl, m, R, C', rfl, s1, f1, g1⟩)
  rw [e1, zb_bs]
  exact ⟨m, R, C', rfl, e3, e4, e5⟩
theorem st_heaviest (h : Inv C M) (x y z : Int32) : SC (sW_heaviest C x y z) (sM_heaviest M x y z) := by
  obtain ⟨hw, hr, hd⟩ := h.now
  have h10 := hw.1.b.2
  unfold sW_heaviest sM_heaviest
  rw [W_areTwo hw.1, M_areTwo hw.1 hr]
  simp only [zb_bs]
  by_cases h2 : ar2 (C 1) x y
  · obtain ⟨p, q, hp, hq, -, rfl, rfl⟩ := is2 hw.1 h2
    rw [if_pos h2, zb_i10, zb_i10]
    by_cases h3 : 0 ≤ z
    · obtain ⟨m, R, C', e1, e2, e3, e4⟩ := W_orderPan (p := p) (q := q) hw (by omega)
      have hm := e2.1
      have hI := Inv_same h (e3.same h) (sameM.rf hd)
      rw [if_pos h3, if_pos h3, zb_bs, if_pos rfl, e1, zb_bs]
      rcases zb_arg z m (by omega) with h4 | h4 | ⟨i, hi, rfl⟩
      · exact absurd h3 (by rw [Int32.le_iff_toInt_le]; rw [Int32.lt_iff_toInt_lt] at h4; omega)
      · have hz : (z = nI (zb_N z) ∧ zb_N z < 1000) ∨ nI 100 ≤ z := by
          rcases zb_arg z 100 (by omega) with h5 | h5 | ⟨i, hi, rfl⟩
          · exact absurd h5 h4.1
          · exact Or.inr h5.2
          · left; rw [zb_N_nI (by omega)]; exact ⟨rfl, by omega⟩
        rw [if_pos h4.2]
        rcases hz with ⟨hz1, hz2⟩ | hz
        · have hf := srt_ff e2 (fun b a => instDecidableAnd) (zb_N z)
          rw [if_neg (by
            have := h4.2
            rw [hz1, zb_le (by omega) (by omega)] at this
            omega)] at hf
          rw [M_heaviestA hw (by omega) hr (Or.inl ⟨hz1, hz2⟩) hf]
          exact SC.mk hI
        · have hf := srt_ff e2 (fun b a => instDecidableAnd) 100
          rw [if_neg (by omega)] at hf
          rw [M_heaviestA hw (by omega) hr (Or.inr ⟨rfl, hz⟩) hf]
          exact SC.mk hI
      · have hf := srt_ff e2 (fun b a => instDecidableAnd) i
        rw [if_pos hi] at hf
        rw [M_heaviestA hw (by omega) hr (Or.inl ⟨rfl, by omega⟩) hf, if_neg (zb_nle hi (by omega)), zb_rd (by omega) (by omega), zb_bs]
        show SC (some (C' 0 9 i, C')) _
        rw [e4 i hi]
        exact SC.mk hI
    · rw [if_neg h3, if_neg h3, zb_bs, if_neg (by decide), W_refuse C (k := 4) rfl (by omega), M_no M (k := 4) rfl (by omega)]
      simp only [zb_bs]
      exact SC.mk (Inv_ref h (by omega))
  · rw [if_neg h2, zb_i00, zb_i00, zb_bs, if_neg (by decide), W_refuse C (k := 1) rfl (by omega), M_no M (k := 1) rfl (by omega)]
    simp only [zb_bs]
    exact SC.mk (Inv_ref h (by omega))
end
