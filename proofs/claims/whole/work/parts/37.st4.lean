/-! call by call: image, restore, back, step -/
section
variable {C M : jm_M}
/-- nothing can be taken back then -/
theorem Inv_forget (h : Inv C M) : Inv (jm_up C 13 0 2 0) (jm_up M 0 0 36 0) := by
  obtain ⟨⟨i1, i2, i3⟩, im, ⟨m, L, f, p1, p2, p3, p4, p5, p6, p7, p8⟩, ⟨l, l1, l2, l3, l4⟩, ⟨r, r1, r2, r3, r4⟩, rf, zt, z17⟩ := h
  have eC : ∀ t, ¬ t = 13 → jm_up C 13 0 2 0 t = C t := fun t ht => by funext a b; exact zb_up_n (by omega)
  have eM : ∀ j, ¬ j = 0 → jm_up M 0 0 36 0 0 j = M 0 j := fun j hj => by funext b; exact zb_up_n (by omega)
  have eF : ∀ s, ¬ s = 36 → jm_up M 0 0 36 0 0 0 s = M 0 0 s := fun s hs => zb_up_n (by omega)
  refine ⟨⟨?_, ?_, ?_⟩, ?_, ⟨0, L, f, by omega, p2, p3, zb_up_s, ?_, zb_up_s, ?_, fun i hi => by omega⟩, ⟨l, l1, ?_, ?_, ?_⟩, ⟨r, r1, ?_, ?_, ?_⟩, ?_, ?_, by rw [eC 17 (by omega)]; exact z17⟩
  · rw [eC 1 (by omega)]; exact i1
  · rw [eC 1 (by omega)]
    exact TR_core i2 i1.1 (fun j i hc => zb_up_n (by rcases hc with ⟨h1, h2, h3⟩ | ⟨h1, h2, h3⟩ <;> omega))
  · rw [eF 17 (by omega)]; exact i3
  · rw [eC 0 (by omega), eC 2 (by omega), eF 32 (by omega), eM 32 (by omega)]; exact im
  · rw [zb_up_n (by omega)]; exact p5
  · rw [eF 35 (by omega)]; exact p7
  · rw [eC 14 (by omega)]; exact l2
  · rw [eF 26 (by omega)]; exact l3
  · rw [eC 14 (by omega), eM 19 (by omega)]; exact l4
  · rw [eC 0 (by omega)]; exact r2
  · rw [eF 41 (by omega)]; exact r3
  · rw [eC 0 (by omega), eM 41 (by omega)]; exact r4
  · rw [eC 0 (by omega), eM 1 (by omega)]; exact rf
  · intro t h1 h2
    rw [eC t (by omega)]; exact zt t h1 h2
theorem P_forget : sP_forget C = some (jm_up C 13 0 2 0) := by
  unfold sP_forget jm_wf
  rw [zb_bs]
theorem st_image (h : Inv C M) : SC (sW_image C) (sM_image M) := by
  obtain ⟨M1, e1, q1, q2, q3⟩ := M_keepAll (M := jm_up M 0 0 32 1) (n := 0) (by omega)
  have hC : sW_image C = some (C 1 0 11, jm_up (stT C 2 (C 1)) 0 0 3 1) := by
    unfold sW_image jm_wz
    rw [T_copyFrom (by omega) (h.zt (by omega) (by omega)) (h.zt (by omega) (by omega)), zb_bs, if_pos (Or.inr rfl), zb_bs, zb_up_n (by omega), stT_n (by omega)]
  have hM : sM_image M = some (M 0 0 15, M1) := by
    unfold sM_image jm_wz
    rw [if_pos (Or.inr rfl), zb_bs, show sM_passesAll (jm_up M 0 0 32 1) 0 1 = some M1 from e1, zb_bs, q3 0 0 15 (by decide), zb_up_n (by omega)]
  obtain ⟨⟨i1, i2, i3⟩, im, ⟨m, L, f, p1, p2, p3, p4, p5, p6, p7, p8⟩, ⟨l, l1, l2, l3, l4⟩, ⟨r, r1, r2, r3, r4⟩, rf, zt, z17⟩ := h
  rw [hC, hM, i2.1.2.2.1]
  have eC : ∀ t, ¬ t = 0 → ¬ t = 2 → jm_up (stT C 2 (C 1)) 0 0 3 1 t = C t := fun t ht ht2 => by
    funext a b
    rw [zb_up_n (by omega), stT_n ht2]
  have eC2 : jm_up (stT C 2 (C 1)) 0 0 3 1 2 = C 1 := by
    funext a b
    rw [zb_up_n (by omega), stT_s]
  have eC0 : ∀ j k, ¬ (j = 0 ∧ k = 3) → jm_up (stT C 2 (C 1)) 0 0 3 1 0 j k = C 0 j k := fun j k hj => by
    rw [zb_up_n (by omega), stT_n (by omega)]
  have f0 : ∀ s, ¬ s = 32 → ¬ s = 33 → ¬ s = 34 → M1 0 0 s = M 0 0 s := fun s h1 h2 h3 => by
    rw [q3 0 0 s (by simp; omega), zb_up_n (by omega)]
  have cl : ∀ j k, ¬ j = 0 → ¬ j = 32 → M1 0 j k = M 0 j k := fun j k h1 h2 => by
    rw [q3 0 j k (by simp; omega), zb_up_n (by omega)]
  have hcore : ∀ j i, core j i → M1 0 j i = M 0 j i := fun j i hc => by
    rcases hc with ⟨rfl, h2, h3⟩ | ⟨h1, h2, h3⟩
    · exact f0 i (by omega) (by omega) (by omega)
    · exact cl j i (by omega) (by omega)
  refine SC.mk ⟨⟨?_, ?_, ?_⟩, ?_, ⟨m, L, f, p1, p2, p3, ?_, ?_, ?_, ?_, ?_⟩, ⟨l, l1, ?_, ?_, ?_⟩, ⟨r, r1, ?_, ?_, ?_⟩, ?_, ?_, by rw [eC 17 (by omega) (by omega)]; exact z17⟩
  · rw [eC 1 (by omega) (by omega)]; exact i1
  · rw [eC 1 (by omega) (by omega)]; exact TR_core i2 i1.1 hcore
  · rw [f0 17 (by omega) (by omega) (by omega)]; exact i3
  · refine Or.inr ⟨zb_up_s, ?_, ?_, ?_⟩
    · rw [q3 0 0 32 (by decide), zb_up_s]
    · rw [eC2]; exact i1
    · rw [eC2]
      refine TR_core i2 i1.1 (fun j i hc => ?_)
      rw [show dec (M1 0 32) 0 j i = jm_up M 0 0 32 1 0 j i from q1 j i hc, zb_up_n (by rcases hc with ⟨h1, h2, h3⟩ | ⟨h1, h2, h3⟩ <;> omega)]
  · rw [eC 13 (by omega) (by omega)]; exact p4
  · rw [eC 13 (by omega) (by omega)]; exact p5
  · rw [f0 36 (by omega) (by omega) (by omega)]; exact p6
  · rw [f0 35 (by omega) (by omega) (by omega)]; exact p7
  · intro i hi
    obtain ⟨w1, w2⟩ := p8 i hi
    rw [eC _ (by omega) (by omega)]
    exact ⟨w1, TR_dec w2 w1.1 (fun k h1 h2 => by rw [q2 k (by omega), zb_up_n (by omega)])⟩
  · rw [eC 14 (by omega) (by omega)]; exact l2
  · rw [f0 26 (by omega) (by omega) (by omega)]; exact l3
  · intro i hi
    rw [eC 14 (by omega) (by omega), cl 19 i (by omega) (by omega)]; exact l4 i hi
  · rw [eC0 0 10 (by omega)]; exact r2
  · rw [f0 41 (by omega) (by omega) (by omega)]; exact r3
  · intro i hi
    rw [eC0 10 i (by omega), cl 41 i (by omega) (by omega)]; exact r4 i hi
  · intro i hi
    rw [eC0 12 i (by omega), cl 1 i (by omega) (by omega)]; exact rf i hi
  · intro t h1 h2
    by_cases e : t = 2
    · subst e; rw [eC2]; exact zt 1 (by omega) (by omega)
    · rw [eC t (by omega) e]; exact zt t h1 h2
theorem mF.back {M M' : jm_M} (h : mF [2, 3, 4, 5, 6, 7, 8, 9, 10, 11, 12, 13] [13, 14, 15, 16, 33, 34] M M') : ∃ M2, M2 = M' ∧ True := ⟨M', rfl, trivial⟩
/-- as Inv_now, where the reference has taken a kept town -/
theorem Inv_now2 {M' : jm_M} {T : jm_T} (h : Inv C M) (hw : wfT 999 T) (hz : ZT T) (hr : TR T (M' 0)) (hm : mF [2, 3, 4, 5, 6, 7, 8, 9, 10, 11, 12, 13] [13, 14, 15, 16, 33, 34] M M') : Inv (stT C 1 T) M' := by
  -- the two that count the reference's own way change nothing that Inv looks at
  have h1 : Inv C (jm_up (jm_up M 0 0 33 (M' 0 0 33)) 0 0 34 (M' 0 0 34)) := by
    refine Inv_same h (sameC.rf h) ⟨fun j i hc => ?_, fun i hi => ?_, ?_, ?_⟩
    · rw [zb_up_n (by rcases hc with ⟨h1, h2, h3⟩ | ⟨h1, h2, h3⟩ <;> omega), zb_up_n (by rcases hc with ⟨h1, h2, h3⟩ | ⟨h1, h2, h3⟩ <;> omega)]
    · rw [zb_up_n (by omega), zb_up_n (by omega)]
    · exact (mF.up (Or.inr ⟨rfl, by decide⟩)).tr (mF.up (Or.inr ⟨rfl, by decide⟩))
    · rw [zb_up_n (by omega), zb_up_n (by omega)]; exact h.now.2.2
  refine Inv_now h1 hw hz hr ?_
  intro a j k q
  by_cases e34 : a = 0 ∧ j = 0 ∧ k = 34
  · obtain ⟨rfl, rfl, rfl⟩ := e34
    rw [zb_up_s]
  · by_cases e33 : a = 0 ∧ j = 0 ∧ k = 33
    · obtain ⟨rfl, rfl, rfl⟩ := e33
      rw [zb_up_n (by omega), zb_up_s]
    · rw [zb_up_n e34, zb_up_n e33]
      refine hm a j k (fun e => q ⟨e.1, e.2.elim Or.inl (fun e2 => Or.inr ⟨e2.1, ?_⟩)⟩)
      have := e2.2
      simp at this ⊢
      have e1 := e.1
      have e3 := e2.1
      omega
theorem st_restore (h : Inv C M) : SC (sW_restore C) (sM_restore M) := by
  obtain ⟨hw, hr, hd⟩ := h.now
  unfold sW_restore sM_restore
  rcases h.2.1 with ⟨a1, a2⟩ | ⟨a1, a2, a3, a4⟩
  · rw [if_pos a1, if_pos a2, W_refuse C (k := 3) rfl (by omega), M_no M (k := 3) rfl (by omega)]
    simp only [zb_bs]
    exact SC.mk (Inv_ref h (by omega))
  · obtain ⟨M1, e1, q1, q2⟩ := M_backAll (M := M) (n := 0) (by omega)
    have hr1 : TR (C 2) (M1 0) := TR_core a4 a3.1 q1
    rw [if_neg (by rw [a1]; decide), if_neg (by rw [a2]; decide), T_copyFrom (by omega) (h.zt (by omega) (by omega)) (h.zt (by omega) (by omega)), zb_bs, P_forget, zb_bs, show sM_passesAll M 0 0 = some M1 from e1, zb_bs]
    unfold jm_wf
    rw [zb_bs, zb_up_n (by omega), stT_s, zb_up_n (by omega), hr1.1.2.2.1]
    exact SC.mk (Inv_forget (Inv_now2 h a3 (h.zt (by omega) (by omega)) hr1 q2))
theorem st_back (h : Inv C M) : SC (sW_back C) (sM_back M) := by
  obtain ⟨m, L, f, p1, p2, p3, p4, p5, p6, p7, p8⟩ := h.2.2.1
  unfold sW_back sM_back
  rw [p4, p6]
  by_cases hm : m = 0
  · subst hm
    rw [if_pos (show nI 0 = 0 from rfl), if_pos (show nI 0 = 0 from rfl), W_refuse C (k := 3) rfl (by omega), M_no M (k := 3) rfl (by omega)]
    simp only [zb_bs]
    exact SC.mk (Inv_ref h (by omega))
  · have hn0 : ¬ nI m = 0 := by rw [← nI_0, zb_eq (by omega) (by omega)]; exact hm
    obtain ⟨w1, w2⟩ := p8 0 (by omega)
    have hg : 5 + (L + 8 - 0) % 8 = 5 + L := by omega
    rw [hg] at w1 w2
    obtain ⟨M1, e1, q1, q2⟩ := M_backAll (M := M) (n := 3 + (f + m + 7 - 0) % 8) (by omega)
    have hr1 : TR (C (5 + L)) (M1 0) := TR_core w2 w1.1 q1
    have hI := Inv_now2 h w1 (h.zt (by omega) (by omega)) hr1 q2
    have hC : sP_giveBack C 1 = some (jm_up (jm_up (stT C 1 (C (5 + L))) 13 0 1 (nI ((L + 8 - 1) % 8))) 13 0 2 (nI (m - 1))) := by
      unfold sP_giveBack
      have hix : jm_ix 8 (nI L) = some L := by
        unfold jm_ix
        rw [if_neg (nI_in (by omega) (by omega)), nI_clamp (by omega)]
      rw [p5, hix, zb_bs, T_copyFrom (by omega) (h.zt (by omega) (by omega)) (h.zt (by omega) (by omega)), zb_bs, stT_n (by omega), p5, show (8 : Int32) = nI 8 from rfl, nI_add, zb_sub1 (by omega), zb_rm (by omega) (by omega) (by omega), zb_bs]
      unfold jm_wf
      rw [zb_bs, zb_bs, zb_up_n (by omega), stT_n (by omega), p4, zb_sub1 (by omega)]
    have hM : ((jm_rm (M 0 0 35 + nI m - 1) 8).bind fun v3 => (sM_passesAll M (3 + v3) 0).bind fun r4 => (jm_wf r4 0 36 (r4 0 0 36 - 1)).bind fun M5 => some (M5 0 0 36, M5)) = some (nI (m - 1), jm_up M1 0 0 36 (nI (m - 1))) := by
      rw [p7, nI_add, zb_sub1 (by omega), show (8 : Int32) = nI 8 from rfl, zb_rm (by omega) (by omega) (by omega), zb_bs, show (3 : Int32) = nI 3 from rfl, nI_add, show 3 + (f + m - 1) % 8 = 3 + (f + m + 7 - 0) % 8 by omega, e1, zb_bs]
      unfold jm_wf
      rw [zb_bs, zb_up_s, q2 0 0 36 (by decide), p6, zb_sub1 (by omega)]
    rw [if_neg hn0, if_neg hn0, hC, zb_bs, hM, zb_up_s]
    obtain ⟨⟨i1, i2, i3⟩, im, -, ⟨l, l1, l2, l3, l4⟩, ⟨r, r1, r2, r3, r4⟩, rf, zt, z17⟩ := hI
    have eC : ∀ t, ¬ t = 13 → jm_up (jm_up (stT C 1 (C (5 + L))) 13 0 1 (nI ((L + 8 - 1) % 8))) 13 0 2 (nI (m - 1)) t = stT C 1 (C (5 + L)) t := fun t ht => by
      funext a b
      rw [zb_up_n (by omega), zb_up_n (by omega)]
    have eM : ∀ j, ¬ j = 0 → jm_up M1 0 0 36 (nI (m - 1)) 0 j = M1 0 j := fun j hj => by funext b; exact zb_up_n (by omega)
    have eF : ∀ s, ¬ s = 36 → jm_up M1 0 0 36 (nI (m - 1)) 0 0 s = M1 0 0 s := fun s hs => zb_up_n (by omega)
    refine SC.mk ⟨⟨?_, ?_, ?_⟩, ?_, ⟨m - 1, (L + 8 - 1) % 8, f, by omega, by omega, p3, zb_up_s, ?_, zb_up_s, ?_, ?_⟩, ⟨l, l1, ?_, ?_, ?_⟩, ⟨r, r1, ?_, ?_, ?_⟩, ?_, ?_, by rw [eC 17 (by omega)]; exact z17⟩
    · rw [eC 1 (by omega)]; exact i1
    · rw [eC 1 (by omega)]
      exact TR_core i2 i1.1 (fun j i hc => zb_up_n (by rcases hc with ⟨h1, h2, h3⟩ | ⟨h1, h2, h3⟩ <;> omega))
    · rw [eF 17 (by omega)]; exact i3
    · rw [eC 0 (by omega), eC 2 (by omega), eF 32 (by omega), eM 32 (by omega)]; exact im
    · rw [zb_up_n (by omega), zb_up_s]
    · rw [eF 35 (by omega), q2 0 0 35 (by decide)]; exact p7
    · intro i hi
      obtain ⟨v1, v2⟩ := p8 (i + 1) (by omega)
      have e1 : ((L + 8 - 1) % 8 + 8 - i) % 8 = (L + 8 - (i + 1)) % 8 := by omega
      have e2 : (f + (m - 1) + 7 - i) % 8 = (f + m + 7 - (i + 1)) % 8 := by omega
      rw [e1, e2, eC _ (by omega), stT_n (by omega), eM 32 (by omega), show M1 0 32 = M 0 32 from by funext k; exact q2 0 32 k (by simp)]
      exact ⟨v1, v2⟩
    · rw [eC 14 (by omega)]; exact l2
    · rw [eF 26 (by omega)]; exact l3
    · rw [eC 14 (by omega), eM 19 (by omega)]; exact l4
    · rw [eC 0 (by omega)]; exact r2
    · rw [eF 41 (by omega)]; exact r3
    · rw [eC 0 (by omega), eM 41 (by omega)]; exact r4
    · rw [eC 0 (by omega), eM 1 (by omega)]; exact rf
    · intro t h1 h2
      rw [eC t (by omega)]; exact zt t h1 h2
/-! one STEP more -/
noncomputable def addS (T : jm_T) (k v : Int32) : jm_T := pt (pt (pt T 14 (ns T) k) 15 (ns T) v) 0 12 (nI (ns T + 1))
theorem T_addStep {t : Nat} (hc : ctT (C t)) (hn : ns (C t) < 6) (k v : Int32) : sT_addStep C t k v = some (stT C t (addS (C t) k v)) := by
  have h := hc.s
  unfold sT_addStep
  rw [h.1, if_neg (show ¬ (6 : Int32) ≤ nI (ns (C t)) from zb_nle (a := 6) hn (by omega)), wa_st hn (by omega), zb_bs, stT_s, pt_j (by omega), h.1, wa_st hn (by omega), zb_bs, stT_s, stT_2, stT_s, pt_j (by omega), pt_j (by omega), h.1, nI_1, wf_st, zb_bs, stT_s, stT_2]
  rfl
theorem wf_addS {w : Nat} {T : jm_T} (h : wfT w T) (hn : ns T < 6) {k v : Int32} (hk : zb_in k 7) (hv : zb_in v 99) : wfT w (addS T k v) := by
  unfold addS
  have e0 : ∀ s, ¬ s = 12 → pt (pt (pt T 14 (ns T) k) 15 (ns T) v) 0 12 (nI (ns T + 1)) 0 s = T 0 s := fun s hs => by rw [pt_k hs, pt_j (by omega), pt_j (by omega)]
  have ej : ∀ j, ¬ j = 0 → ¬ j = 14 → ¬ j = 15 → pt (pt (pt T 14 (ns T) k) 15 (ns T) v) 0 12 (nI (ns T + 1)) j = T j := fun j h0 h1 h2 => by rw [pt_j h0, pt_j h2, pt_j h1]
  have es : ns (pt (pt (pt T 14 (ns T) k) 15 (ns T) v) 0 12 (nI (ns T + 1))) = ns T + 1 := by unfold ns; rw [pt_s, zb_N_nI (by unfold ns at hn; omega)]
  refine ⟨⟨by rw [e0 0 (by omega)]; exact h.1.1, by rw [e0 4 (by omega)]; exact h.1.2.1, by rw [pt_s]; exact ⟨_, by omega, rfl⟩⟩, by rw [e0 11 (by omega)]; exact h.2.1, ?_, ?_, ?_, ?_⟩
  · rw [np_e (e0 0 (by omega)), ej 2 (by omega) (by omega) (by omega), ej 3 (by omega) (by omega) (by omega), ej 4 (by omega) (by omega) (by omega)]; exact h.2.2.1
  · rw [nb_e (e0 4 (by omega)), np_e (e0 0 (by omega)), ej 6 (by omega) (by omega) (by omega), ej 7 (by omega) (by omega) (by omega), ej 8 (by omega) (by omega) (by omega), ej 9 (by omega) (by omega) (by omega), ej 10 (by omega) (by omega) (by omega), ej 11 (by omega) (by omega) (by omega)]
    intro b hb
    rw [pl_e (e0 0 (by omega)), pl_e (e0 0 (by omega))]
    exact h.2.2.2.1 b hb
  · rw [es]
    intro i hi
    rw [pt_j (show ¬ 14 = 0 by omega), pt_j (show ¬ 14 = 15 by omega), pt_j (show ¬ 15 = 0 by omega)]
    by_cases e : i = ns T
    · subst e; rw [pt_s, pt_s]; exact ⟨hk, hv⟩
    · rw [pt_k e, pt_k e, pt_j (by omega)]; exact h.2.2.2.2.1 i (by omega)
  · rw [nb_e (e0 4 (by omega)), ej 11 (by omega) (by omega) (by omega)]; exact h.2.2.2.2.2
theorem TR_addS {T : jm_T} (hr : TR T (M 0)) (hc : ctT T) (hn : ns T < 6) (k v : Int32) : TR (addS T k v) (jm_up (jm_up (jm_up M 0 12 (ns T) k) 0 13 (ns T) v) 0 0 16 (nI (ns T + 1)) 0) := by
  have h1 := TR_upJ (TR_upJ hr (jT := 14) (jM := 12) (i := ns T) (v := k) (by omega)) (jT := 15) (jM := 13) (i := ns T) (v := v) (by omega)
  unfold addS
  have e0 : ∀ s, ¬ s = 12 → pt (pt (pt T 14 (ns T) k) 15 (ns T) v) 0 12 (nI (ns T + 1)) 0 s = T 0 s := fun s hs => by rw [pt_k hs, pt_j (by omega), pt_j (by omega)]
  have ej : ∀ j, ¬ j = 0 → pt (pt (pt T 14 (ns T) k) 15 (ns T) v) 0 12 (nI (ns T + 1)) j = pt (pt T 14 (ns T) k) 15 (ns T) v j := fun j h0 => pt_j h0
  have es : ns (pt (pt (pt T 14 (ns T) k) 15 (ns T) v) 0 12 (nI (ns T + 1))) = ns T + 1 := by unfold ns; rw [pt_s, zb_N_nI (by unfold ns at hn; omega)]
  have gj : ∀ j, ¬ j = 0 → jm_up (jm_up (jm_up M 0 12 (ns T) k) 0 13 (ns T) v) 0 0 16 (nI (ns T + 1)) 0 j = jm_up (jm_up M 0 12 (ns T) k) 0 13 (ns T) v 0 j := fun j hj => by funext x; exact zb_up_n (by omega)
  have en : np (pt (pt T 14 (ns T) k) 15 (ns T) v) = np T := np_e (by rw [pt_j (by omega), pt_j (by omega)])
  have enb : nb (pt (pt T 14 (ns T) k) 15 (ns T) v) = nb T := nb_e (by rw [pt_j (by omega), pt_j (by omega)])
  refine ⟨?_, ?_, ?_, ?_⟩
  · rw [zb_up_n (by omega), zb_up_n (by omega), zb_up_n (by omega), zb_up_n (by omega), zb_up_n (by omega), zb_up_n (by omega), zb_up_n (by omega), zb_up_n (by omega), zb_up_n (by omega), zb_up_s, e0 0 (by omega), e0 4 (by omega), e0 11 (by omega), pt_s]
    exact ⟨hr.1.1, hr.1.2.1, hr.1.2.2.1, rfl⟩
  · rw [np_e (e0 0 (by omega)), ej 2 (by omega), ej 3 (by omega), ej 4 (by omega), gj 2 (by omega), gj 3 (by omega), gj 4 (by omega)]
    have := h1.2.1
    rw [en] at this
    exact this
  · rw [nb_e (e0 4 (by omega)), ej 6 (by omega), ej 7 (by omega), ej 8 (by omega), ej 9 (by omega), ej 10 (by omega), gj 5 (by omega), gj 6 (by omega), gj 7 (by omega), gj 8 (by omega), gj 9 (by omega)]
    intro b hb
    have := h1.2.2.1
    rw [enb] at this
    obtain ⟨a1, a2, a3, a4, a5, a6⟩ := this b hb
    refine ⟨a1, a2, a3, a4, a5, ?_⟩
    unfold ti dg at a6 ⊢
    rw [gj 10 (by omega), gj 11 (by omega), ej 11 (by omega)]
    exact a6
  · rw [es]
    intro i hi
    rw [gj 12 (by omega), gj 13 (by omega), ej 14 (by omega), ej 15 (by omega)]
    by_cases e : i = ns T
    · subst e
      rw [zb_up_n (by omega), zb_up_s, zb_up_s, pt_j (by omega), pt_s, pt_s]
      exact ⟨rfl, rfl⟩
    · rw [zb_up_n (by omega), zb_up_n (by omega), zb_up_n (by omega), zb_up_n (by omega), pt_j (by omega), pt_k e, pt_k e, pt_j (by omega)]
      exact hr.2.2.2 i (by omega)
theorem M_isIn07 (x : Int32) : sM_isIn x 0 7 = some (if x < 0 then 0 else if x < 8 then 1 else 0) := by
  unfold sM_isIn
  by_cases a : x < 0
  · simp [a]
  · have e7 : (7 : Int32).toInt = 7 := rfl
    have e8 : (8 : Int32).toInt = 8 := rfl
    by_cases b : x < 8
    · have : ¬ (7 : Int32) < x := by rw [Int32.lt_iff_toInt_lt] at b ⊢; omega
      simp [a, b, this]
    · have : (7 : Int32) < x := by rw [Int32.lt_iff_toInt_lt] at b ⊢; omega
      simp [a, b, this]
theorem zb_lt8 {x : Int32} {n : Nat} (hn : n < 900000) (h0 : ¬ x < 0) (h1 : x < nI n) : ∃ k, k < n ∧ x = nI k := by
  rcases zb_arg x n (by omega) with h | ⟨-, h⟩ | h
  · exact absurd h h0
  · rw [Int32.le_iff_toInt_le] at h
    rw [Int32.lt_iff_toInt_lt] at h1
    omega
  · exact h
theorem st_step (h : Inv C M) (x y : Int32) : SC (sW_step C x y) (sM_step M x y) := by
  obtain ⟨hw, hr, hd⟩ := h.now
  have hs := hw.1.s
  unfold sW_step sM_step
  rw [M_isIn07, M_bound]
  simp only [zb_bs]
  by_cases h1 : x < 0
  · rw [if_pos h1, if_pos h1, zb_i00, zb_bs, if_neg (by decide), zb_bs, if_neg (by decide), W_refuse C (k := 2) rfl (by omega), M_no M (k := 2) rfl (by omega)]
    simp only [zb_bs]
    exact SC.mk (Inv_ref h (by omega))
  · by_cases h2 : x < 8
    · obtain ⟨k, hk, rfl⟩ := zb_lt8 (n := 8) (by omega) h1 h2
      rw [if_neg h1, if_pos h2, if_neg h1, if_pos h2, zb_i10]
      by_cases h3 : 0 ≤ y
      · by_cases h4 : y ≤ 99
        · have h4' : ¬ (99 : Int32) < y := by rw [Int32.lt_iff_toInt_lt]; rw [Int32.le_iff_toInt_le] at h4; omega
          obtain ⟨v, hv, rfl⟩ := zb_upto (n := 99) (by omega) h3 h4
          rw [if_pos h3, if_neg h4', if_pos h3, if_pos h4, zb_bs, if_pos rfl, hr.1.2.2.2, hs.1]
          by_cases h5 : ns (C 1) = 6
          · rw [h5, if_neg (by decide), if_pos (by decide), zb_bs, if_neg (by decide), W_refuse C (k := 6) rfl (by omega), M_no M (k := 6) rfl (by omega)]
            simp only [zb_bs]
            exact SC.mk (Inv_ref h (by omega))
          · have h6 : ns (C 1) < 6 := by omega
            obtain ⟨C1, M1, e1, e2, hI, e3⟩ := st_keep h
            have hr1 := hI.now.2.1
            rw [e3] at hr1
            rw [if_pos (show nI (ns (C 1)) < (6 : Int32) from by rw [show (6 : Int32) = nI 6 from rfl, zb_lt (by omega) (by omega)]; exact h6), if_neg (show ¬ nI (ns (C 1)) = (6 : Int32) from by rw [show (6 : Int32) = nI 6 from rfl, zb_eq (by omega) (by omega)]; exact h5), zb_bs, if_pos rfl, e1, zb_bs, e2, zb_bs, T_addStep (by rw [e3]; exact hw.1) (by rw [e3]; exact h6), zb_bs, e3, hr1.1.2.2.2, hs.1, zb_wa h6 (by omega), zb_bs, zb_up_n (by omega), hr1.1.2.2.2, hs.1, zb_wa h6 (by omega), zb_bs]
            unfold jm_wf
            rw [zb_bs, zb_up_s, zb_up_n (by omega), zb_up_n (by omega), hr1.1.2.2.2, hs.1, nI_1, stT_s, show addS (C 1) (nI k) (nI v) 0 12 = nI (ns (C 1) + 1) from pt_s]
            refine SC.mk (Inv_now hI (wf_addS hw h6 ⟨k, by omega, rfl⟩ ⟨v, hv, rfl⟩) ?_ (TR_addS hr1 hw.1 h6 _ _) (((mF.one (by omega)).tr (mF.one (by omega))).tr (mF.fld (by decide))))
            exact ZT_pt (ZT_pt (ZT_pt (h.zt (by omega) (by omega)) (Or.inr (Or.inl ⟨by omega, h6⟩))) (Or.inr (Or.inl ⟨by omega, h6⟩))) (Or.inl ⟨rfl, by omega⟩)
        · have h4' : (99 : Int32) < y := by rw [Int32.lt_iff_toInt_lt]; rw [Int32.le_iff_toInt_le] at h4; omega
          rw [if_pos h3, if_pos h4', if_pos h3, if_neg h4, zb_bs, if_neg (by decide), zb_bs, if_neg (by decide), W_refuse C (k := 6) rfl (by omega), M_no M (k := 6) rfl (by omega)]
          simp only [zb_bs]
          exact SC.mk (Inv_ref h (by omega))
      · rw [if_neg h3, if_neg h3, zb_bs, if_neg (by decide), zb_bs, if_neg (by decide), W_refuse C (k := 4) rfl (by omega), M_no M (k := 4) rfl (by omega)]
        simp only [zb_bs]
        exact SC.mk (Inv_ref h (by omega))
    · rw [if_neg h1, if_neg h2, if_neg h1, if_neg h2, zb_i00, zb_bs, if_neg (by decide), zb_bs, if_neg (by decide), W_refuse C (k := 2) rfl (by omega), M_no M (k := 2) rfl (by omega)]
      simp only [zb_bs]
      exact SC.mk (Inv_ref h (by omega))
end
