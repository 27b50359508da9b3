/-! couples: the class -/
def fr17 (C C' : jm_M) : Prop := (∀ t, ¬ t = 17 → C' t = C t) ∧ C' 17 2 0 = C 17 2 0
theorem fr17.rf {C : jm_M} : fr17 C C := ⟨fun _ _ => rfl, rfl⟩
theorem fr17.up {C C' : jm_M} (h : fr17 C C') {j i : Nat} {v : Int32} (hn : ¬ (j = 2 ∧ i = 0)) : fr17 C (jm_up C' 17 j i v) := by
  refine ⟨fun t ht => ?_, ?_⟩
  · rw [← h.1 t ht]
    funext b k
    exact zb_up_n (by omega)
  · rw [zb_up_n (by omega)]
    exact h.2
theorem fr17.same {C C' M : jm_M} (hI : Inv C M) (h : fr17 C C') : sameC C C' :=
  ⟨fun t h1 h2 _ _ => h.1 t (by omega), by rw [h.1 14 (by omega)], by rw [h.1 14 (by omega)], fun k => by rw [h.1 0 (by omega)], by rw [h.1 0 (by omega)], by rw [h.1 0 (by omega)], by rw [h.1 3 (by omega)]; exact hI.zt (by omega) (by omega), by rw [h.1 4 (by omega)]; exact hI.zt (by omega) (by omega), h.2⟩
/-- the bits of those with whom it comes down -/
def dnR (T : jm_T) (C' : jm_M) (k : Nat) : Prop := ∀ p, p < k → isM (np T) (fun q => p < q ∧ dn T p q) (C' 17 1 p)
section
variable {C M : jm_M} {w : Nat}
theorem C_weighAll (hw : wfT w (C 1)) : ∃ C', sC_weighAll C 1 = some C' ∧ fr17 C C' ∧ dnR (C 1) C' (np (C 1)) := by
  have h := hw.1.p
  unfold sC_weighAll
  obtain ⟨e, e1, e2⟩ := zb_ch (f := sC_weighAll_L2 1) (s := (0, C)) (fun (k : Nat) (u : Int32 × jm_M) => ∃ C', u = (nI k, C') ∧ fr17 C C' ∧ dnR (C 1) C' k) (fun e => fr17 C e ∧ dnR (C 1) e (np (C 1))) (np (C 1)) (by omega) ⟨C, rfl, fr17.rf, fun p hp => by omega⟩ (by
    intro p hp u hu
    obtain ⟨C', rfl, f1, d1⟩ := hu
    left
    unfold sC_weighAll_L2
    simp only []
    rw [f1.1 1 (by omega), h.1, if_neg (zb_nle hp (by omega)), zb_wa (by omega) (by omega)]
    simp only [zb_bs, nI_1]
    obtain ⟨e, e1, e2, e3⟩ := zb_ch (f := sC_weighAll_L21 1 (nI p, C')) (s := (nI (p + 1), jm_up C' 17 1 p 0)) (fun (j : Nat) (u : Int32 × jm_M) => ∃ C2, u = (nI (p + 1 + j), C2) ∧ fr17 C C2 ∧ dnR (C 1) C2 p ∧ isM (p + 1 + j) (fun q => p < q ∧ dn (C 1) p q) (C2 17 1 p)) (fun e => fr17 C e ∧ dnR (C 1) e (p + 1)) (np (C 1) - (p + 1)) (by omega)
      ⟨_, rfl, f1.up (by omega), fun q hq => by rw [zb_up_n (by omega)]; exact d1 q hq, by
        rw [zb_up_s]
        exact ⟨0, Nat.two_pow_pos _, rfl, fun v hv => ⟨fun z => by simp at z, fun z => by omega⟩⟩⟩ (by
      intro j hj u hu
      obtain ⟨C2, rfl, f2, d2, m2⟩ := hu
      left
      unfold sC_weighAll_L21
      simp only []
      rw [f2.1 1 (by omega), h.1, if_neg (zb_nle (by omega) (by omega)), T_comesDown (by rw [f2.1 1 (by omega)]; exact hw.1) (by omega) (by omega), zb_bs, f2.1 1 (by omega), zb_rd (by omega) (by omega), zb_bs, zb_wa (by omega) (by omega), zb_bs, nI_1]
      by_cases c : ts_over (C 1) p (p + 1 + j) < 0
      · rw [if_pos c, zb_i00]
        refine ⟨_, rfl, C2, rfl, f2, d2, ?_⟩
        rw [← Int32.or_zero (a := C2 17 1 p)]
        exact isM_not m2 (fun z => z.2 c)
      · rw [if_neg c, zb_i10]
        refine ⟨_, rfl, _, rfl, f2.up (by omega), fun q hq => by rw [zb_up_n (by omega)]; exact d2 q hq, ?_⟩
        rw [zb_up_s]
        exact isM_add (n := p + 1 + j) (P := fun q => p < q ∧ dn (C 1) p q) (by omega) m2 ⟨by omega, c⟩) (by
      intro u hu
      obtain ⟨C2, rfl, f2, d2, m2⟩ := hu
      unfold sC_weighAll_L21
      simp only []
      rw [f2.1 1 (by omega), h.1, if_pos (zb_yle (by omega) (by omega))]
      refine ⟨_, rfl, f2, fun q hq => ?_⟩
      rcases Nat.lt_or_ge q p with z | z
      · exact d2 q z
      · rw [show q = p by omega]
        rw [show p + 1 + (np (C 1) - (p + 1)) = np (C 1) by omega] at m2
        exact m2)
    rw [e1, zb_bs]
    exact ⟨_, rfl, _, rfl, e2, e3⟩) (by
    intro u hu
    obtain ⟨C', rfl, f1, d1⟩ := hu
    unfold sC_weighAll_L2
    simp only []
    rw [f1.1 1 (by omega), h.1, if_pos (zb_yle (Nat.le_refl _) (by omega))]
    exact ⟨_, rfl, f1, d1⟩)
  rw [e1, zb_bs]
  exact ⟨e, rfl, e2⟩
theorem C_firstOf {s n : Nat} (h0 : 0 < s) (hs : s < 64) (hn : n ≤ 6) (h2 : s < 2 ^ n) : sC_firstOf (nI s) (nI n) = some (nI (lb s)) ∧ lb s < n := by
  obtain ⟨l1, l2⟩ := lb_at s hs h0
  have ln : lb s < n := tb_lt h2 l1
  refine ⟨?_, ln⟩
  unfold sC_firstOf
  refine zb_forB (fun k => nI k) (.inr (nI (lb s))) (lb s) rfl (fun j hj => ?_) ?_ (by omega) rfl
  · unfold sC_firstOf_L2
    rw [if_neg (zb_nle (by omega) (by omega)), if_pos ((zb_pb s hs j (by omega)).2 (lb_lo s hs j hj)), nI_1]
  · unfold sC_firstOf_L2
    rw [if_neg (zb_nle ln (by omega)), if_neg (fun z => by
      rw [(zb_pb s hs _ l2).1 z] at l1
      cases l1)]
/-- the test of two with the bits of both -/
theorem C_test {T : jm_T} {r p q : Nat} {d : Int32} (hr : r < 64) (hn : np T ≤ 6) (hq : q < np T) (hd : isM (np T) (fun q => p < q ∧ dn T p q) d) : ((nI r &&& d) &&& ((1 : Int32) <<< (nI q &&& 31)) = 0) = ¬ (p < q ∧ r.testBit q = true ∧ dB T p q = true) := by
  obtain ⟨s, s1, rfl, s3⟩ := hd
  have h64 : 2 ^ np T ≤ 2 ^ 6 := Nat.pow_le_pow_right (by omega) hn
  have le : r &&& s ≤ r := Nat.and_le_left
  rw [nI_and]
  apply propext
  rw [zb_pb _ (by omega) q (by omega), Nat.testBit_and, Bool.and_eq_false_iff]
  have e : s.testBit q = true ↔ (p < q ∧ dn T p q) := s3 q hq
  rw [← dB_iff] at e
  cases a : r.testBit q <;> cases b : s.testBit q
  · simp
  · simp
  · rw [b] at e
    simp at e
    simp
    intro z
    simpa using e z
  · rw [b] at e
    simp at e
    simp
    exact e
theorem C_mostAmong {T : jm_T} (hc : ctT T) {s : Nat} (h0 : 0 < s) (hs : s < 2 ^ np T) (hd : dnR T C (np T)) (hm : ∀ u, u < s → C 17 2 u = nI (mo T u)) : sC_mostAmong C (nI s) (nI (np T)) = some (nI (mo T s)) := by
  have h6 := hc.p.2
  have h64 := pow_64 hc
  obtain ⟨l1, l2⟩ := lb_at s (by omega) h0
  obtain ⟨f1, f2⟩ := C_firstOf h0 (by omega) h6 hs
  have wl := wo_lt s (by omega) (lb s) l2 l1
  unfold sC_mostAmong
  rw [f1, zb_bs, zb_clr6 (by omega) (by omega), zb_bs, zb_rd (by omega) (by omega), zb_bs, hm _ wl, nI_1, zb_bs, mo_eq T h0 (by omega)]
  refine zb_fromB (fun k => (nI (mxN T (mo T) (lb s) (wo s (lb s)) k), nI k)) (nI (mxN T (mo T) (lb s) (wo s (lb s)) (np T))) (lb s + 1) (np T) (by omega) ?_ ?_ ?_ (by omega) rfl
  · show (nI (mxN T (mo T) (lb s) (wo s (lb s)) (lb s + 1)), nI (lb s + 1)) = _
    rw [mxN_lo T (mo T) _ _ _ (Nat.le_refl _)]
  · intro k h1 h2
    have wk := wo_le (wo s (lb s)) k
    have ms := mo_64 T (show wo (wo s (lb s)) k < 64 by omega)
    have mb := mxN_le (T := T) (f := mo T) (p := lb s) (r := wo s (lb s)) (fun u hu => mo_le T (u + 1) u (by omega) (by omega)) k
    unfold sC_mostAmong_L30
    simp only []
    rw [if_neg (zb_nle h2 (by omega)), zb_rd (by omega) (by omega), zb_bs, zb_clr6 (by omega) (by omega), zb_rd (by omega) (by omega), zb_bs, hm _ (by omega), mxN_S, nI_1, zb_bs]
    have ct := C_test (r := wo s (lb s)) (by omega) h6 h2 (hd (lb s) f2)
    by_cases c : lb s < k ∧ (wo s (lb s)).testBit k = true ∧ dB T (lb s) k = true
    · rw [if_neg (fun z => (ct.mp z) c), if_pos c, show (1 : Int32) + nI (mo T (wo (wo s (lb s)) k)) = nI (1 + mo T (wo (wo s (lb s)) k)) from nI_add _ _, zb_maxI (by omega) (by omega)]
    · rw [if_pos (ct.mpr c), if_neg c]
  · unfold sC_mostAmong_L30
    simp only []
    rw [if_pos (zb_yle (Nat.le_refl _) (by omega))]
theorem C_firstPartner {T : jm_T} (hc : ctT T) {s p : Nat} (hp : p < np T) (hs : s < 2 ^ np T) (hd : dnR T C (np T)) (hm : ∀ u, u < 2 ^ np T → C 17 2 u = nI (mo T u)) : sC_firstPartner C (nI p) (nI s) (nI (np T)) = some (zb_o (pqO T p s)) := by
  have h6 := hc.p.2
  have h64 := pow_64 hc
  have hf := pqO_at T p s
  have w1 := wo_le s p
  have stp : ∀ k, k < np T → sC_firstPartner_L14 (nI (np T)) C (nI p) (nI (wo s p)) (nI s) (nI k) = if pqP T p s k then some (.inr (.inr (nI k))) else some (.inl (nI (k + 1))) := by
    intro k hk
    have w2 := wo_le (wo s p) k
    have m1 := mo_64 T (show wo (wo s p) k < 64 by omega)
    have m2 := mo_64 T (show s < 64 by omega)
    have ct := C_test (r := wo s p) (by omega) h6 hk (hd p hp)
    unfold sC_firstPartner_L14
    rw [if_neg (zb_nle hk (by omega)), zb_rd (by omega) (by omega), zb_bs, zb_clr6 (by omega) (by omega), zb_rd (by omega) (by omega), zb_bs, zb_rd (by omega) (by omega), zb_bs, hm _ (by omega), hm _ hs, nI_1, show (1 : Int32) + nI (mo T (wo (wo s p) k)) = nI (1 + mo T (wo (wo s p) k)) from nI_add _ _]
    by_cases c : p < k ∧ (wo s p).testBit k = true ∧ dB T p k = true
    · rw [if_neg (fun z => (ct.mp z) c)]
      by_cases d : 1 + mo T (wo (wo s p) k) = mo T s
      · rw [if_pos (by rw [d]), if_pos ⟨c.1, c.2.1, c.2.2, d⟩]
      · rw [if_neg (by rw [zb_eq (by omega) (by omega)]; exact d), if_neg (fun z => d z.2.2.2)]
    · rw [if_pos (ct.mpr c), if_neg (fun z => c ⟨z.1, z.2.1, z.2.2.1⟩)]
  unfold sC_firstPartner
  rw [zb_clr6 (by omega) (by omega), zb_bs, nI_1, zb_bs]
  cases e : pqO T p s with
  | none =>
    rw [e] at hf
    refine zb_fromB (fun k => nI k) (.inl ()) (p + 1) (np T) (by omega) rfl (fun k h1 hk => ?_) ?_ (by omega) rfl
    · rw [stp k hk, if_neg (hf k hk)]
    · unfold sC_firstPartner_L14
      rw [if_pos (zb_yle (Nat.le_refl _) (by omega))]
  | some q =>
    rw [e] at hf
    obtain ⟨g1, g2, g3⟩ := hf
    refine zb_fromB (fun k => nI k) (.inr (nI q)) (p + 1) q (by have := g2.1; omega) rfl (fun k h1 hk => ?_) ?_ (by omega) rfl
    · rw [stp k (by omega), if_neg (g3 k hk)]
    · rw [stp q g1, if_pos g2]
theorem C_choose (hw : wfT w (C 1)) (hz : C 17 2 0 = 0) : ∃ C', sC_choose C 1 = some C' ∧ fr17 C C' ∧ C' 17 0 3 = nI (mo (C 1) (2 ^ np (C 1) - 1)) ∧ ∀ p, p < np (C 1) → C' 17 3 p = (prN (C 1) (np (C 1))).2 p := by
  have h := hw.1.p
  have h64 := pow_64 hw.1
  have hp0 : 0 < 2 ^ np (C 1) := Nat.two_pow_pos _
  obtain ⟨C1, c1, c2, c3⟩ := C_weighAll hw
  have eall : ((1 : Int32) <<< (nI (np (C 1)) &&& 31)) - 1 = nI (2 ^ np (C 1) - 1) := by
    rw [zb_shl _ (by omega), show (1 : Int32) = nI 1 from rfl, pk_sub (by omega)]
  unfold sC_choose
  rw [c1, zb_bs, c2.1 1 (by omega), h.1, eall, zb_bs]
  obtain ⟨e, e1, e2, e3, e4⟩ := zb_ch (f := sC_choose_L16 (nI (2 ^ np (C 1) - 1)) 1) (s := (1, C1)) (fun (k : Nat) (u : Int32 × jm_M) => ∃ C', u = (nI (k + 1), C') ∧ fr17 C C' ∧ dnR (C 1) C' (np (C 1)) ∧ ∀ s, s < k + 1 → C' 17 2 s = nI (mo (C 1) s)) (fun e => fr17 C e ∧ dnR (C 1) e (np (C 1)) ∧ ∀ s, s < 2 ^ np (C 1) → e 17 2 s = nI (mo (C 1) s)) (2 ^ np (C 1) - 1) (by omega)
    ⟨C1, rfl, c2, c3, fun s hs => by
      have : s = 0 := by omega
      subst this
      rw [c2.2, hz]
      rfl⟩ (by
    intro k hk u hu
    obtain ⟨C', rfl, f1, d1, t1⟩ := hu
    left
    unfold sC_choose_L16
    simp only []
    rw [if_neg (show ¬ nI (2 ^ np (C 1) - 1) < nI (k + 1) by rw [zb_lt (by omega) (by omega)]; omega), f1.1 1 (by omega), h.1, C_mostAmong hw.1 (by omega) (by omega) d1 t1, zb_bs, zb_wa (by omega) (by omega), zb_bs, nI_1]
    refine ⟨_, rfl, _, rfl, f1.up (by omega), fun p hp => by rw [zb_up_n (by omega)]; exact d1 p hp, fun s hs => ?_⟩
    by_cases g : s = k + 1
    · subst g; rw [zb_up_s]
    · rw [zb_up_n (by omega)]; exact t1 s (by omega)) (by
    intro u hu
    obtain ⟨C', rfl, f1, d1, t1⟩ := hu
    unfold sC_choose_L16
    simp only []
    rw [if_pos (show nI (2 ^ np (C 1) - 1) < nI (2 ^ np (C 1) - 1 + 1) by rw [zb_lt (by omega) (by omega)]; omega)]
    exact ⟨_, rfl, f1, d1, fun s hs => t1 s (by omega)⟩)
  rw [e1, zb_bs, zb_rd (by omega) (by omega), zb_bs, wf_up, zb_bs, zb_up_n (by omega), e2.1 1 (by omega), h.1, e4 _ (by omega)]
  have f5 := e2.up (j := 0) (i := 3) (v := nI (mo (C 1) (2 ^ np (C 1) - 1))) (by omega)
  have d5 : dnR (C 1) (jm_up e 17 0 3 (nI (mo (C 1) (2 ^ np (C 1) - 1)))) (np (C 1)) := fun p hp => by rw [zb_up_n (by omega)]; exact e3 p hp
  have m5 : ∀ s, s < 2 ^ np (C 1) → jm_up e 17 0 3 (nI (mo (C 1) (2 ^ np (C 1) - 1))) 17 2 s = nI (mo (C 1) s) := fun s hs => by rw [zb_up_n (by omega)]; exact e4 s hs
  have v5 : jm_up e 17 0 3 (nI (mo (C 1) (2 ^ np (C 1) - 1))) 17 0 3 = nI (mo (C 1) (2 ^ np (C 1) - 1)) := zb_up_s
  generalize jm_up e 17 0 3 (nI (mo (C 1) (2 ^ np (C 1) - 1))) = C5 at f5 d5 m5 v5
  unfold sC_pair
  obtain ⟨e6, e7, f6, d6, m6, v6, g6⟩ := zb_ch (f := sC_pair_L5 (nI (np (C 1)))) (s := (0, C5)) (fun (k : Nat) (u : Int32 × jm_M) => ∃ C', u = (nI k, C') ∧ fr17 C C' ∧ dnR (C 1) C' (np (C 1)) ∧ (∀ s, s < 2 ^ np (C 1) → C' 17 2 s = nI (mo (C 1) s)) ∧ C' 17 0 3 = nI (mo (C 1) (2 ^ np (C 1) - 1)) ∧ ∀ p, p < k → C' 17 3 p = -9) (fun C' => fr17 C C' ∧ dnR (C 1) C' (np (C 1)) ∧ (∀ s, s < 2 ^ np (C 1) → C' 17 2 s = nI (mo (C 1) s)) ∧ C' 17 0 3 = nI (mo (C 1) (2 ^ np (C 1) - 1)) ∧ ∀ p, p < np (C 1) → C' 17 3 p = -9) (np (C 1)) (by omega) ⟨C5, rfl, f5, d5, m5, v5, fun p hp => by omega⟩ (by
    intro k hk u hu
    obtain ⟨C', rfl, f1, d1, t1, v1, g1⟩ := hu
    left
    unfold sC_pair_L5
    simp only []
    rw [if_neg (zb_nle hk (by omega)), zb_wa (by omega) (by omega), zb_bs, nI_1]
    refine ⟨_, rfl, _, rfl, f1.up (by omega), fun p hp => by rw [zb_up_n (by omega)]; exact d1 p hp, fun s hs => by rw [zb_up_n (by omega)]; exact t1 s hs, by rw [zb_up_n (by omega)]; exact v1, fun p hp => ?_⟩
    by_cases g : p = k
    · subst g; rw [zb_up_s]
    · rw [zb_up_n (by omega)]; exact g1 p (by omega)) (by
    intro u hu
    obtain ⟨C', rfl, f1, d1, t1, v1, g1⟩ := hu
    unfold sC_pair_L5
    simp only []
    rw [if_pos (zb_yle (Nat.le_refl _) (by omega))]
    exact ⟨_, rfl, f1, d1, t1, v1, g1⟩)
  rw [e7, zb_bs]
  obtain ⟨e8, e9, f9, v9, g9⟩ := zb_ch (f := sC_pair_L29 (nI (np (C 1)))) (s := (nI (2 ^ np (C 1) - 1), 0, e6)) (fun (k : Nat) (u : Int32 × Int32 × jm_M) => ∃ C', u = (nI (prN (C 1) k).1, nI k, C') ∧ fr17 C C' ∧ dnR (C 1) C' (np (C 1)) ∧ (∀ s, s < 2 ^ np (C 1) → C' 17 2 s = nI (mo (C 1) s)) ∧ C' 17 0 3 = nI (mo (C 1) (2 ^ np (C 1) - 1)) ∧ ∀ p, p < np (C 1) → C' 17 3 p = (prN (C 1) k).2 p) (fun C' => fr17 C C' ∧ C' 17 0 3 = nI (mo (C 1) (2 ^ np (C 1) - 1)) ∧ ∀ p, p < np (C 1) → C' 17 3 p = (prN (C 1) (np (C 1))).2 p) (np (C 1)) (by omega) ⟨e6, rfl, f6, d6, m6, v6, g6⟩ (by
    intro k hk u hu
    obtain ⟨C', rfl, f1, d1, t1, v1, g1⟩ := hu
    left
    have hi := prN_I hw.1 k (by omega)
    have hn : prN (C 1) (k + 1) = prS (C 1) k (prN (C 1) k) := rfl
    rw [hn]
    generalize prN (C 1) k = u at hi g1
    have hu := hi.1
    unfold sC_pair_L29
    simp only []
    rw [if_neg (zb_nle hk (by omega)), C_firstPartner hw.1 hk hu d1 t1, zb_bs, zb_clr6 (by omega) (by omega), zb_bs, nI_1]
    unfold prS
    cases c : u.1.testBit k with
    | false =>
      rw [if_pos ((zb_pb _ (by omega) k (by omega)).2 c), if_neg (by simp)]
      exact ⟨_, rfl, C', rfl, f1, d1, t1, v1, g1⟩
    | true =>
      rw [if_neg (fun z => by
        rw [(zb_pb _ (by omega) k (by omega)).1 z] at c
        cases c), if_pos rfl]
      have hf := pqO_at (C 1) k u.1
      cases e : pqO (C 1) k u.1 with
      | none =>
        rw [if_pos (show zb_o none = -9 from rfl)]
        exact ⟨_, rfl, C', rfl, f1, d1, t1, v1, g1⟩
      | some q =>
        rw [e] at hf
        have hq := hf.1
        have w1 := wo_le u.1 k
        show ∃ s', (if nI q = -9 then _ else _) = _ ∧ _
        rw [if_neg (zb_m9 (by omega)), zb_wa (by omega) (by omega), zb_bs]
        show ∃ s', (jm_wa 6 _ 17 3 (nI q) (nI k)).bind _ = _ ∧ _
        rw [zb_wa (by omega) (by omega), zb_bs]
        show ∃ s', (some (nI (wo u.1 k) &&& (((1 : Int32) <<< (nI q &&& 31)) ^^^ (-1)))).bind _ = _ ∧ _
        rw [zb_clr6 (by omega) (by omega), zb_bs]
        refine ⟨_, rfl, _, rfl, (f1.up (by omega)).up (by omega), fun p hp => by rw [zb_up_n (by omega), zb_up_n (by omega)]; exact d1 p hp, fun s hs => by rw [zb_up_n (by omega), zb_up_n (by omega)]; exact t1 s hs, by rw [zb_up_n (by omega), zb_up_n (by omega)]; exact v1, fun p hp => ?_⟩
        show _ = upf (upf u.2 k (nI q)) q (nI k) p
        unfold upf
        by_cases g : p = q
        · subst g; rw [zb_up_s, if_pos rfl]
        · rw [zb_up_n (by omega), if_neg g]
          by_cases g2 : p = k
          · subst g2; rw [zb_up_s, if_pos rfl]; rfl
          · rw [zb_up_n (by omega), if_neg g2]; exact g1 p hp) (by
    intro u hu
    obtain ⟨C', rfl, f1, d1, t1, v1, g1⟩ := hu
    unfold sC_pair_L29
    simp only []
    rw [if_pos (zb_yle (Nat.le_refl _) (by omega))]
    exact ⟨_, rfl, f1, v1, g1⟩)
  rw [e9, zb_bs, zb_bs]
  exact ⟨e8, rfl, f9, v9, g9⟩
end
