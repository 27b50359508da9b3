section
variable {C M : jm_M}
abbrev twP (T : jm_T) (p q n k : Nat) : Prop := ¬ twA T p q n k < twA T p q n (k ^^^ 2) ∧ ¬ twB T p q n k < twB T p q n (k ^^^ 1)
theorem st_two (h : Inv C M) (x y z : Int32) : SC (sW_two C x y z) (sM_two M x y z) := by
  obtain ⟨hw, hr, hd⟩ := h.now
  have h6 := hw.1.p.2
  have z1 := h.zt (t := 1) (by omega) (by omega)
  unfold sW_two sM_two
  rw [W_areTwo hw.1, M_areTwo hw.1 hr, M_bound]
  simp only [zb_bs]
  by_cases h2 : ar2 (C 1) x y
  · obtain ⟨p, q, hp, hq, -, rfl, rfl⟩ := is2 hw.1 h2
    rw [if_pos h2, zb_i10, zb_i10]
    by_cases h3 : 1 ≤ z
    · by_cases h4 : z ≤ 30
      · obtain ⟨n, hn, rfl⟩ := zb_upto (n := 30) (x := z) (by omega) (by rw [Int32.le_iff_toInt_le] at h3 ⊢; have : (1 : Int32).toInt = 1 := rfl; have : (0 : Int32).toInt = 0 := rfl; omega) h4
        rw [if_pos h3, if_pos h4, if_pos h3, if_pos h4, zb_bs, if_pos rfl]
        obtain ⟨r, hf⟩ := zb_ff_ex (twP (C 1) p q n) 4
        -- the class
        have eC : ∃ e, jm_loop (sF_steadyPair_L3 1 (nI p) (nI q) (nI n)) jm_N (0, C) = some e ∧ sameC C e ∧ ∀ j, j < 4 → e 15 2 j = twA (C 1) p q n j ∧ e 15 3 j = twB (C 1) p q n j := by
          refine zb_ch (fun (k : Nat) (s : Int32 × jm_M) => ∃ C' : jm_M, s = (nI k, C') ∧ (∀ t, ¬ t = 4 → ¬ t = 15 → C' t = C t) ∧ ZT (C' 4) ∧ ∀ j, j < k → C' 15 2 j = twA (C 1) p q n j ∧ C' 15 3 j = twB (C 1) p q n j) _ 4 (by omega) ⟨C, rfl, fun _ _ _ => rfl, h.zt (by omega) (by omega), fun j h => by omega⟩ ?_ ?_
          · intro k hk s hs
            obtain ⟨C', rfl, a1, a2, a3⟩ := hs
            left
            have c1 := a1 1 (by omega) (by omega)
            obtain ⟨T', e1, zT⟩ := F_weighChoice (C := C') (p := p) (q := q) (n := n) (k := k) (by rw [c1]; exact hw) (by rw [c1]; exact z1) a2 (by rw [c1]; exact hp) (by rw [c1]; exact hq) (by omega) hk
            unfold sF_steadyPair_L3
            simp only []
            rw [if_neg (show ¬ (4 : Int32) ≤ nI k from zb_nle (a := 4) hk (by omega)), e1, zb_bs, nI_1, c1]
            refine ⟨_, rfl, _, rfl, fun t h4 h15 => ?_, ?_, fun j hj => ?_⟩
            · funext a b
              rw [zb_up_n (by omega), zb_up_n (by omega), stT_n h4, a1 t h4 h15]
            · have e : ∀ {v w : Int32}, jm_up (jm_up (stT C' 4 T') 15 2 k v) 15 3 k w 4 = T' := by
                intro v w
                funext a b
                rw [zb_up_n (by omega), zb_up_n (by omega), stT_s]
              rw [e]
              exact zT
            · by_cases g : j = k
              · subst g
                rw [zb_up_n (by omega), zb_up_s, zb_up_s]
                exact ⟨rfl, rfl⟩
              · rw [zb_up_n (by omega), zb_up_n (by omega), zb_up_n (by omega), zb_up_n (by omega), stT_n (by omega)]
                exact a3 j (by omega)
          · intro s hs
            obtain ⟨C', rfl, a1, a2, a3⟩ := hs
            unfold sF_steadyPair_L3
            simp only []
            rw [if_pos (show (4 : Int32) ≤ nI 4 from zb_yle (Nat.le_refl 4) (by omega))]
            exact ⟨_, rfl, ⟨fun t h1 h2 h3 h4 => a1 t h4 (by omega), by rw [a1 14 (by omega) (by omega)], by rw [a1 14 (by omega) (by omega)], fun _ => by rw [a1 0 (by omega) (by omega)], by rw [a1 0 (by omega) (by omega)], by rw [a1 0 (by omega) (by omega)], by rw [a1 3 (by omega) (by omega)]; exact h.zt (by omega) (by omega), a2, by rw [a1 17 (by omega) (by omega)]⟩, a3⟩
        obtain ⟨e, e1, e2, e3⟩ := eC
        obtain ⟨M', m1, m2, m3⟩ := M_findEnds hw hr hd hp hq (n := n) (by omega)
        have hI := Inv_same h e2 m2
        have stC : ∀ k, k < 4 → sF_steadyPair_L29 e (nI k) = if twP (C 1) p q n k then some (.inr (.inr (10 * nI (k / 2) + nI (k % 2), e))) else some (.inl (nI (k + 1))) := by
          intro k hk
          obtain ⟨k1, k2, k3, k4, k5, k6⟩ := zb_k4 k hk
          unfold sF_steadyPair_L29 twP
          rw [if_neg (show ¬ (4 : Int32) ≤ nI k from zb_nle (a := 4) hk (by omega)), k1, k2, k3, k4, zb_rd (by omega) (by omega), zb_bs, zb_rd (by omega) (by omega), zb_bs, zb_rd (by omega) (by omega), zb_bs, zb_rd (by omega) (by omega), zb_bs, nI_1, (e3 k hk).1, (e3 k hk).2, (e3 _ k5).2, (e3 _ k6).1]
          by_cases a : twA (C 1) p q n k < twA (C 1) p q n (k ^^^ 2)
          · rw [if_pos a, if_neg (fun e => e.1 a)]
          · by_cases b : twB (C 1) p q n k < twB (C 1) p q n (k ^^^ 1)
            · rw [if_neg a, if_pos b, if_neg (fun e => e.2 b)]
            · rw [if_neg a, if_neg b, if_pos ⟨a, b⟩]
        have stM : ∀ k, k < 4 → sM_two_L44 M' (nI k) = if twP (C 1) p q n k then some (.inr (.inr (10 * nI (k / 2) + nI (k % 2), M'))) else some (.inl (nI (k + 1))) := by
          intro k hk
          obtain ⟨k1, k2, k3, k4, k5, k6⟩ := zb_k4 k hk
          have mu : ∀ j : Nat, (2 : Int32) * nI j = nI (2 * j) := fun j => (show nI 2 * nI j = _ from pk_mul ..)
          unfold sM_two_L44 twP
          rw [if_neg (show ¬ (4 : Int32) ≤ nI k from zb_nle (a := 4) hk (by omega)), k3, k4, mu, mu, mu, nI_1, nI_1, nI_1, zb_rd (by omega) (by omega), zb_bs, zb_rd (by omega) (by omega), zb_bs, zb_rd (by omega) (by omega), zb_bs, zb_rd (by omega) (by omega), zb_bs, (m3 k hk).1, (m3 k hk).2, (m3 _ k5).2, (m3 _ k6).1,
            show jm_dv (nI k) 2 = some (nI (k / 2)) from zb_dv (d := 2) (by omega) (by omega) (by omega), show jm_rm (nI k) 2 = some (nI (k % 2)) from zb_rm (d := 2) (by omega) (by omega) (by omega)]
          simp only [zb_bs]
          by_cases a : twA (C 1) p q n k < twA (C 1) p q n (k ^^^ 2)
          · rw [if_pos a, if_neg (fun e => e.1 a)]
          · by_cases b : twB (C 1) p q n k < twB (C 1) p q n (k ^^^ 1)
            · rw [if_neg a, if_pos b, if_neg (fun e => e.2 b)]
            · rw [if_neg a, if_neg b, if_pos ⟨a, b⟩]
        unfold sF_steadyPair
        rw [e1, zb_bs, m1, zb_bs]
        cases r with
        | none =>
          refine ⟨-9, e, M', ?_, ?_, hI⟩
          · rw [zb_for (f := sF_steadyPair_L29 e) (fun k => nI k) (s := 0) (e := .inl ()) 4 rfl (fun k hk => by rw [stC k hk, if_neg (hf k hk)]) (by
              unfold sF_steadyPair_L29
              rw [if_pos (show (4 : Int32) ≤ nI 4 from zb_yle (Nat.le_refl 4) (by omega))]) (by omega)]
            rfl
          · rw [zb_for (f := sM_two_L44 M') (fun k => nI k) (s := 0) (e := .inl ()) 4 rfl (fun k hk => by rw [stM k hk, if_neg (hf k hk)]) (by
              unfold sM_two_L44
              rw [if_pos (show (4 : Int32) ≤ nI 4 from zb_yle (Nat.le_refl 4) (by omega))]) (by omega)]
            rfl
        | some j =>
          obtain ⟨j1, j2, j3⟩ := hf
          refine ⟨10 * nI (j / 2) + nI (j % 2), e, M', ?_, ?_, hI⟩
          · rw [zb_for (f := sF_steadyPair_L29 e) (fun k => nI k) (s := 0) (e := .inr (10 * nI (j / 2) + nI (j % 2), e)) j rfl (fun k hk => by rw [stC k (by omega), if_neg (j3 k hk)]) (by rw [stC j j1, if_pos j2]) (by omega)]
            rfl
          · rw [zb_for (f := sM_two_L44 M') (fun k => nI k) (s := 0) (e := .inr (10 * nI (j / 2) + nI (j % 2), M')) j rfl (fun k hk => by rw [stM k (by omega), if_neg (j3 k hk)]) (by rw [stM j j1, if_pos j2]) (by omega)]
            rfl
      · rw [if_pos h3, if_neg h4, if_pos h3, if_neg h4, zb_bs, if_neg (by decide), W_refuse C (k := 6) rfl (by omega), M_no M (k := 6) rfl (by omega)]
        simp only [zb_bs]
        exact SC.mk (Inv_ref h (by omega))
    · rw [if_neg h3, if_neg h3, zb_bs, if_neg (by decide), W_refuse C (k := 4) rfl (by omega), M_no M (k := 4) rfl (by omega)]
      simp only [zb_bs]
      exact SC.mk (Inv_ref h (by omega))
  · rw [if_neg h2, zb_i00, zb_i00, zb_bs, if_neg (by decide), W_refuse C (k := 1) rfl (by omega), M_no M (k := 1) rfl (by omega)]
    simp only [zb_bs]
    exact SC.mk (Inv_ref h (by omega))
end
