/-! one person more -/
noncomputable def addP (T : jm_T) (x y z : Int32) : jm_T := pt (pt (pt (pt T 2 (np T) x) 3 (np T) y) 4 (np T) z) 0 0 (nI (np T + 1))
theorem addP_0 (T : jm_T) (x y z : Int32) (s : Nat) (hs : ¬ s = 0) : addP T x y z 0 s = T 0 s := by
  unfold addP
  rw [pt_k hs, pt_j (by omega), pt_j (by omega), pt_j (by omega)]
theorem addP_00 (T : jm_T) (x y z : Int32) : addP T x y z 0 0 = nI (np T + 1) := by
  unfold addP
  exact pt_s
theorem addP_j (T : jm_T) (x y z : Int32) (j : Nat) (hj : ¬ j = 0 ∧ ¬ j = 2 ∧ ¬ j = 3 ∧ ¬ j = 4) : addP T x y z j = T j := by
  unfold addP
  rw [pt_j (by omega), pt_j (by omega), pt_j (by omega), pt_j (by omega)]
theorem addP_row (T : jm_T) (x y z : Int32) (k : Nat) : addP T x y z 2 k = (if k = np T then x else T 2 k) ∧ addP T x y z 3 k = (if k = np T then y else T 3 k) ∧ addP T x y z 4 k = (if k = np T then z else T 4 k) := by
  unfold addP
  by_cases h : k = np T
  · simp [pt, h]
  · simp [pt, h]
theorem addP_np {T : jm_T} (hn : np T < 6) (x y z : Int32) : np (addP T x y z) = np T + 1 := by
  show zb_N (addP T x y z 0 0) = _
  rw [addP_00, zb_N_nI (by omega)]
theorem addP_nb (T : jm_T) (x y z : Int32) : nb (addP T x y z) = nb T := nb_e (addP_0 T x y z 4 (by omega))
theorem addP_ns (T : jm_T) (x y z : Int32) : ns (addP T x y z) = ns T := ns_e (addP_0 T x y z 12 (by omega))
theorem wf_addP {w : Nat} {T : jm_T} (h : wfT w T) (hn : np T < 6) {x y z : Int32} (hx : zb_in x 99) (hy : zb_in y 9) (hz : zb_in z 99) : wfT w (addP T x y z) := by
  refine ⟨⟨by rw [addP_00]; exact ⟨_, by omega, rfl⟩, by rw [addP_0 T x y z 4 (by omega)]; exact h.1.2.1, by rw [addP_0 T x y z 12 (by omega)]; exact h.1.2.2⟩, by rw [addP_0 T x y z 11 (by omega)]; exact h.2.1, ?_, ?_, ?_, ?_⟩
  · rw [addP_np hn]
    intro p hp
    obtain ⟨r2, r3, r4⟩ := addP_row T x y z p
    rw [r2, r3, r4]
    by_cases e : p = np T
    · rw [if_pos e, if_pos e, if_pos e]; exact ⟨hx, hy, hz⟩
    · rw [if_neg e, if_neg e, if_neg e]; exact h.2.2.1 p (by omega)
  · rw [addP_nb, addP_np hn, addP_j T x y z 6 (by omega), addP_j T x y z 7 (by omega), addP_j T x y z 8 (by omega), addP_j T x y z 9 (by omega), addP_j T x y z 10 (by omega), addP_j T x y z 11 (by omega)]
    intro b hb
    obtain ⟨a1, a2, a3, a4, a5, a6⟩ := h.2.2.2.1 b hb
    have up : ∀ v, pl T v → pl (addP T x y z) v := by
      intro v hv
      rcases hv with hv | ⟨k, hk, e⟩
      · exact Or.inl hv
      · exact Or.inr ⟨k, by rw [addP_np hn]; omega, e⟩
    have e : (2 : Nat) ^ (np T + 1) = 2 ^ np T + 2 ^ np T := by rw [Nat.pow_succ]; omega
    exact ⟨a1, a2, up _ a3, up _ a4, zb_in_mono a5 (by omega), a6⟩
  · rw [addP_ns, addP_j T x y z 14 (by omega), addP_j T x y z 15 (by omega)]
    exact h.2.2.2.2.1
  · rw [addP_nb, addP_j T x y z 11 (by omega)]
    exact h.2.2.2.2.2
theorem ZT_addP {T : jm_T} (h : ZT T) (hn : np T < 6) (x y z : Int32) : ZT (addP T x y z) := by
  unfold addP
  exact ZT_pt (ZT_pt (ZT_pt (ZT_pt h (Or.inr (Or.inl ⟨by omega, hn⟩))) (Or.inr (Or.inl ⟨by omega, hn⟩))) (Or.inr (Or.inl ⟨by omega, hn⟩))) (Or.inl ⟨rfl, by omega⟩)
theorem ti_e {T T' g g' : jm_T} {b : Nat} (h : ti T g b) (h1 : T' 11 b = T 11 b) (h2 : g' 10 b = g 10 b) (h3 : ∀ k, k < 4 → g' 11 (4 * b + k) = g 11 (4 * b + k)) : ti T' g' b := by
  obtain ⟨t1, t2, t3, t4⟩ := h
  have h4 := (zb_in_N t1 (by omega)).2
  have e : ∀ k, dg g' b k = dg g b k := by
    intro k
    unfold dg
    rw [h2]
    by_cases q : k < zb_N (g 10 b)
    · rw [if_pos q, if_pos q, h3 k (by omega)]
    · rw [if_neg q, if_neg q]
  refine ⟨by rw [h2]; exact t1, by rw [h2]; exact t2, fun k hk => ?_, by rw [h1, e, e, e, e]; exact t4⟩
  rw [h2] at hk
  rw [h3 k (by omega)]
  exact t3 k hk
theorem T_addPerson {C : jm_M} {t : Nat} (hc : ctT (C t)) (hn : np (C t) < 6) (x y z : Int32) : sT_addPerson C t x y z = some (nI (np (C t)), stT C t (addP (C t) x y z)) := by
  have h := hc.p
  unfold sT_addPerson
  rw [zb_bs, h.1, if_neg (show ¬ (6 : Int32) ≤ nI (np (C t)) from zb_nle (a := 6) hn (by omega)), wa_st hn (by omega), zb_bs, wa_st hn (by omega), zb_bs, stT_s, stT_2, wa_st hn (by omega), zb_bs, stT_s, stT_2, stT_s, pt_j (by omega), pt_j (by omega), pt_j (by omega), h.1, nI_1, wf_st, zb_bs, stT_s, stT_2]
  rfl
noncomputable def mrM (M : jm_M) (n : Nat) (x y z : Int32) : jm_M := jm_up (jm_up (jm_up (jm_up M 0 2 n x) 0 3 n y) 0 4 n z) 0 0 13 (nI (n + 1))
theorem M_isMore {M : jm_M} {n : Nat} (hn : n < 6) (h : M 0 0 13 = nI n) (x y z : Int32) : sM_isMore M x y z = some (mrM M n x y z) := by
  unfold sM_isMore
  rw [h, zb_wa hn (by omega), zb_bs, zb_up_n (by omega), h, zb_wa hn (by omega), zb_bs, zb_up_n (by omega), zb_up_n (by omega), h, zb_wa hn (by omega), zb_bs, zb_up_n (by omega), zb_up_n (by omega), zb_up_n (by omega), h, nI_1, wf_up, zb_bs]
  rfl
theorem TR_addP {T : jm_T} {M : jm_M} (hr : TR T (M 0)) (hn : np T < 6) (x y z : Int32) : TR (addP T x y z) (mrM M (np T) x y z 0) := by
  have gj : ∀ j, ¬ j = 0 → ¬ j = 2 → ¬ j = 3 → ¬ j = 4 → mrM M (np T) x y z 0 j = M 0 j := fun j h0 h2 h3 h4 => by
    funext k
    unfold mrM
    rw [zb_up_n (by omega), zb_up_n (by omega), zb_up_n (by omega), zb_up_n (by omega)]
  have g0 : ∀ s, ¬ s = 13 → mrM M (np T) x y z 0 0 s = M 0 0 s := fun s hs => by
    unfold mrM
    rw [zb_up_n (by omega), zb_up_n (by omega), zb_up_n (by omega), zb_up_n (by omega)]
  refine ⟨⟨?_, ?_, ?_, ?_⟩, ?_, ?_, ?_⟩
  · rw [addP_00]; exact zb_up_s
  · rw [g0 14 (by omega), addP_0 T x y z 4 (by omega)]; exact hr.1.2.1
  · rw [g0 15 (by omega), addP_0 T x y z 11 (by omega)]; exact hr.1.2.2.1
  · rw [g0 16 (by omega), addP_0 T x y z 12 (by omega)]; exact hr.1.2.2.2
  · rw [addP_np hn]
    intro p hp
    obtain ⟨r2, r3, r4⟩ := addP_row T x y z p
    rw [r2, r3, r4]
    unfold mrM
    by_cases e : p = np T
    · subst e
      rw [if_pos rfl, if_pos rfl, if_pos rfl]
      refine ⟨?_, ?_, ?_⟩
      · rw [zb_up_n (by omega), zb_up_n (by omega), zb_up_n (by omega), zb_up_s]
      · rw [zb_up_n (by omega), zb_up_n (by omega), zb_up_s]
      · rw [zb_up_n (by omega), zb_up_s]
    · obtain ⟨q2, q3, q4⟩ := hr.2.1 p (by omega)
      rw [if_neg e, if_neg e, if_neg e, ← q2, ← q3, ← q4]
      refine ⟨?_, ?_, ?_⟩
      · rw [zb_up_n (by omega), zb_up_n (by omega), zb_up_n (by omega), zb_up_n (by omega)]
      · rw [zb_up_n (by omega), zb_up_n (by omega), zb_up_n (by omega), zb_up_n (by omega)]
      · rw [zb_up_n (by omega), zb_up_n (by omega), zb_up_n (by omega), zb_up_n (by omega)]
  · rw [addP_nb, addP_j T x y z 6 (by omega), addP_j T x y z 7 (by omega), addP_j T x y z 8 (by omega), addP_j T x y z 9 (by omega), addP_j T x y z 10 (by omega), gj 5 (by omega) (by omega) (by omega) (by omega), gj 6 (by omega) (by omega) (by omega) (by omega), gj 7 (by omega) (by omega) (by omega) (by omega), gj 8 (by omega) (by omega) (by omega) (by omega), gj 9 (by omega) (by omega) (by omega) (by omega)]
    intro b hb
    obtain ⟨a1, a2, a3, a4, a5, a6⟩ := hr.2.2.1 b hb
    exact ⟨a1, a2, a3, a4, a5, ti_e a6 (by rw [addP_j T x y z 11 (by omega)]) (by rw [gj 10 (by omega) (by omega) (by omega) (by omega)]) (fun k _ => by rw [gj 11 (by omega) (by omega) (by omega) (by omega)])⟩
  · rw [addP_ns, addP_j T x y z 14 (by omega), addP_j T x y z 15 (by omega), gj 12 (by omega) (by omega) (by omega) (by omega), gj 13 (by omega) (by omega) (by omega) (by omega)]
    exact hr.2.2.2
theorem zb_not_lt {x : Int32} {n : Nat} (h0 : ¬ x < 0) (h1 : ¬ nI n < x) (hn : n < 900000) : zb_in x n := by
  have h0' : 0 ≤ x := Int32.not_lt.1 h0
  have h1' : x ≤ nI n := Int32.not_lt.1 h1
  obtain ⟨k, hk, e⟩ := zb_upto hn h0' h1'
  exact ⟨k, hk, e⟩
section
variable {C M : jm_M}
theorem SC_no (h : Inv C M) {k : Nat} {x : Int32} (hx : -x = nI k) (hk : k < 7) : SC ((sW_refuse C x).bind (fun r => some (r.1, r.2))) ((sM_no M x).bind (fun r => some (r.1, r.2))) := by
  rw [W_refuse C hx hk, M_no M hx hk, zb_bs, zb_bs]
  exact SC.mk (Inv_ref h hk)
theorem st_comes (h : Inv C M) (x y z : Int32) : SC (sW_comes C x y z) (sM_comes M x y z) := by
  obtain ⟨hw, hr, hd⟩ := h.now
  have h6 := hw.1.p
  unfold sW_comes sM_comes
  by_cases a1 : x < 0
  · rw [if_pos a1, if_pos a1, zb_bs, if_neg (by decide)]
    exact SC_no h (k := 4) rfl (by omega)
  rw [if_neg a1, if_neg a1]
  by_cases a2 : y < 0
  · rw [if_pos a2, if_pos a2, zb_bs, if_neg (by decide)]
    exact SC_no h (k := 4) rfl (by omega)
  rw [if_neg a2, if_neg a2]
  by_cases a3 : 0 ≤ z
  · rw [if_pos a3, if_pos a3]
    by_cases b1 : 99 < x
    · rw [if_pos b1, if_pos b1, zb_bs, if_neg (by decide)]
      exact SC_no h (k := 6) rfl (by omega)
    rw [if_neg b1, if_neg b1]
    by_cases b2 : 9 < y
    · rw [if_pos b2, if_pos b2, zb_bs, if_neg (by decide)]
      exact SC_no h (k := 6) rfl (by omega)
    rw [if_neg b2, if_neg b2]
    by_cases b3 : 99 < z
    · rw [if_pos b3, if_pos b3, zb_bs, if_neg (by decide)]
      exact SC_no h (k := 6) rfl (by omega)
    rw [if_neg b3, if_neg b3, hr.1.1, h6.1]
    by_cases c1 : np (C 1) = 6
    · rw [c1, if_neg (by decide), if_pos (by decide), zb_bs, if_neg (by decide)]
      exact SC_no h (k := 6) rfl (by omega)
    · have hn : np (C 1) < 6 := by omega
      have w := wf_addP hw hn (zb_not_lt a1 (n := 99) b1 (by omega)) (zb_not_lt a2 (n := 9) b2 (by omega)) (zb_not_lt (Int32.not_lt.2 a3) (n := 99) b3 (by omega))
      have hI := Inv_now h w (ZT_addP (h.zt (by omega) (by omega)) hn x y z) (TR_addP hr hn x y z) ((((mF.one (by omega)).tr (mF.one (by omega))).tr (mF.one (by omega))).tr (mF.fld (by decide)))
      have e1 : jm_up C 13 0 2 0 1 = C 1 := by funext a b; exact zb_up_n (by omega)
      have e2 : stT (jm_up C 13 0 2 0) 1 (addP (C 1) x y z) = jm_up (stT C 1 (addP (C 1) x y z)) 13 0 2 0 := by
        funext t a b
        by_cases ht : t = 1
        · subst ht
          rw [stT_s, zb_up_n (by omega), stT_s]
        · rw [stT_n ht]
          by_cases hq : t = 13 ∧ a = 0 ∧ b = 2
          · obtain ⟨rfl, rfl, rfl⟩ := hq
            rw [zb_up_s, zb_up_s]
          · rw [zb_up_n hq, zb_up_n hq, stT_n ht]
      rw [if_pos (show nI (np (C 1)) < (6 : Int32) from by rw [show (6 : Int32) = nI 6 from rfl, zb_lt (by omega) (by omega)]; exact hn), if_neg (show ¬ nI (np (C 1)) = (6 : Int32) from by rw [show (6 : Int32) = nI 6 from rfl, zb_eq (by omega) (by omega)]; exact c1), zb_bs, if_pos rfl,
        P_forget, zb_bs, T_addPerson (by rw [e1]; exact hw.1) (by rw [e1]; exact hn), zb_bs, e1, e2, M_isMore hn (by rw [hr.1.1]; exact h6.1), zb_bs, wf_up, zb_bs]
      refine ⟨nI (np (C 1)), _, _, rfl, ?_, Inv_forget hI⟩
      rw [zb_up_n (by omega), show mrM M (np (C 1)) x y z 0 0 13 = nI (np (C 1) + 1) from zb_up_s, show (1 : Int32) = nI 1 from rfl, pk_sub (by omega), Nat.add_sub_cancel]
  · rw [if_neg a3, if_neg a3, zb_bs, if_neg (by decide)]
    exact SC_no h (k := 4) rfl (by omega)
end
