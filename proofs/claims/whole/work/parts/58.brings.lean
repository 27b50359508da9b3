/-! one book more -/
noncomputable def addB (T : jm_T) (k f v t : Int32) : jm_T := pt (pt (pt (pt (pt (pt (pt T 6 (nb T) k) 7 (nb T) f) 8 (nb T) v) 9 (nb T) v) 10 (nb T) 0) 11 (nb T) t) 0 4 (nI (nb T + 1))
section
variable (T : jm_T) (k f v t : Int32)
theorem addB_0 (s : Nat) (hs : ¬ s = 4) : addB T k f v t 0 s = T 0 s := by
  unfold addB
  rw [pt_k hs, pt_j (by omega), pt_j (by omega), pt_j (by omega), pt_j (by omega), pt_j (by omega), pt_j (by omega)]
theorem addB_04 : addB T k f v t 0 4 = nI (nb T + 1) := by
  unfold addB
  exact pt_s
theorem addB_j (j : Nat) (hj : ¬ j = 0 ∧ (j < 6 ∨ 11 < j)) : addB T k f v t j = T j := by
  unfold addB
  rw [pt_j (by omega), pt_j (by omega), pt_j (by omega), pt_j (by omega), pt_j (by omega), pt_j (by omega), pt_j (by omega)]
theorem addB_row (j i : Nat) (hj : ¬ j = 0) (hi : ¬ i = nb T) : addB T k f v t j i = T j i := by
  unfold addB
  have e : ∀ {U : jm_T} {J : Nat} {x : Int32}, pt U J (nb T) x j i = U j i := by
    intro U J x
    by_cases h : j = J
    · subst h; exact pt_k hi
    · rw [pt_j h]
  rw [pt_j hj, e, e, e, e, e, e]
theorem addB_new : addB T k f v t 6 (nb T) = k ∧ addB T k f v t 7 (nb T) = f ∧ addB T k f v t 8 (nb T) = v ∧ addB T k f v t 9 (nb T) = v ∧ addB T k f v t 10 (nb T) = 0 ∧ addB T k f v t 11 (nb T) = t := by
  unfold addB
  refine ⟨?_, ?_, ?_, ?_, ?_, ?_⟩
  · rw [pt_j (by omega), pt_j (by omega), pt_j (by omega), pt_j (by omega), pt_j (by omega), pt_j (by omega), pt_s]
  · rw [pt_j (by omega), pt_j (by omega), pt_j (by omega), pt_j (by omega), pt_j (by omega), pt_s]
  · rw [pt_j (by omega), pt_j (by omega), pt_j (by omega), pt_j (by omega), pt_s]
  · rw [pt_j (by omega), pt_j (by omega), pt_j (by omega), pt_s]
  · rw [pt_j (by omega), pt_j (by omega), pt_s]
  · rw [pt_j (by omega), pt_s]
theorem addB_np : np (addB T k f v t) = np T := np_e (addB_0 T k f v t 0 (by omega))
theorem addB_ns : ns (addB T k f v t) = ns T := ns_e (addB_0 T k f v t 12 (by omega))
end
theorem addB_nb {T : jm_T} (hn : nb T < 10) (k f v t : Int32) : nb (addB T k f v t) = nb T + 1 := by
  show zb_N (addB T k f v t 0 4) = _
  rw [addB_04, zb_N_nI (by omega)]
theorem wf_addB {w : Nat} {T : jm_T} (h : wfT w T) (hn : nb T < 10) {k f v t : Int32} (hk : zb_in k 7) (hf : zb_in f 9) (hv : pl T v) (ht : tl t) (hnew : ∀ b, b < nb T → ¬ T 11 b = t) : wfT w (addB T k f v t) := by
  obtain ⟨n6, n7, n8, n9, n10, n11⟩ := addB_new T k f v t
  refine ⟨⟨by rw [addB_0 T k f v t 0 (by omega)]; exact h.1.1, by rw [addB_04]; exact ⟨_, by omega, rfl⟩, by rw [addB_0 T k f v t 12 (by omega)]; exact h.1.2.2⟩, by rw [addB_0 T k f v t 11 (by omega)]; exact h.2.1, ?_, ?_, ?_, ?_⟩
  · rw [addB_np, addB_j T k f v t 2 (by omega), addB_j T k f v t 3 (by omega), addB_j T k f v t 4 (by omega)]
    exact h.2.2.1
  · rw [addB_nb hn, addB_np]
    intro b hb
    rw [pl_e (addB_0 T k f v t 0 (by omega)), pl_e (addB_0 T k f v t 0 (by omega))]
    by_cases e : b = nb T
    · subst e
      rw [n6, n7, n8, n9, n10, n11]
      exact ⟨hk, hf, hv, hv, ⟨0, by omega, rfl⟩, ht⟩
    · rw [addB_row T k f v t 6 b (by omega) e, addB_row T k f v t 7 b (by omega) e, addB_row T k f v t 8 b (by omega) e, addB_row T k f v t 9 b (by omega) e, addB_row T k f v t 10 b (by omega) e, addB_row T k f v t 11 b (by omega) e]
      exact h.2.2.2.1 b (by omega)
  · rw [addB_ns, addB_j T k f v t 14 (by omega), addB_j T k f v t 15 (by omega)]
    exact h.2.2.2.2.1
  · rw [addB_nb hn]
    intro a b ha hb e
    by_cases ea : a = nb T
    · by_cases eb : b = nb T
      · rw [ea, eb]
      · rw [ea, n11, addB_row T k f v t 11 b (by omega) eb] at e
        exact absurd e.symm (hnew b (by omega))
    · by_cases eb : b = nb T
      · rw [eb, n11, addB_row T k f v t 11 a (by omega) ea] at e
        exact absurd e (hnew a (by omega))
      · rw [addB_row T k f v t 11 a (by omega) ea, addB_row T k f v t 11 b (by omega) eb] at e
        exact h.2.2.2.2.2 a b (by omega) (by omega) e
theorem ZT_addB {T : jm_T} (h : ZT T) (hn : nb T < 10) (k f v t : Int32) : ZT (addB T k f v t) := by
  unfold addB
  have i : ∀ j, 6 ≤ j → j ≤ 11 → inr_ j (nb T) := fun j h1 h2 => Or.inr (Or.inr ⟨by omega, hn⟩)
  exact ZT_pt (ZT_pt (ZT_pt (ZT_pt (ZT_pt (ZT_pt (ZT_pt h (i 6 (by omega) (by omega))) (i 7 (by omega) (by omega))) (i 8 (by omega) (by omega))) (i 9 (by omega) (by omega))) (i 10 (by omega) (by omega))) (i 11 (by omega) (by omega))) (Or.inl ⟨rfl, by omega⟩)
theorem T_addBook {C : jm_M} {t : Nat} (hc : ctT (C t)) (hn : nb (C t) < 10) (k f v x : Int32) : sT_addBook C t k f v x = some (nI (nb (C t)), stT C t (addB (C t) k f v x)) := by
  have h := hc.b
  unfold sT_addBook
  rw [zb_bs, h.1, if_neg (show ¬ (10 : Int32) ≤ nI (nb (C t)) from zb_nle (a := 10) hn (by omega)), wa_st hn (by omega), zb_bs, wa_st hn (by omega), zb_bs, stT_s, stT_2, wa_st hn (by omega), zb_bs, stT_s, stT_2, wa_st hn (by omega), zb_bs, stT_s, stT_2, wa_st hn (by omega), zb_bs, stT_s, stT_2, wa_st hn (by omega), zb_bs, stT_s, stT_2, stT_s, pt_j (by omega), pt_j (by omega), pt_j (by omega), pt_j (by omega), pt_j (by omega), pt_j (by omega), h.1, nI_1, wf_st, zb_bs, stT_s, stT_2]
  rfl
noncomputable def brM (M : jm_M) (n : Nat) (k f v : Int32) : jm_M := jm_up (jm_up (jm_up (jm_up (jm_up (jm_up (jm_up M 0 5 n k) 0 6 n f) 0 7 n v) 0 8 n v) 0 9 n 0) 0 10 n 0) 0 0 14 (nI (n + 1))
theorem M_isBrought {M : jm_M} {n : Nat} (hn : n < 10) (h : M 0 0 14 = nI n) (k f v : Int32) : sM_isBrought M k f v = some (brM M n k f v) := by
  unfold sM_isBrought
  rw [h, zb_wa hn (by omega), zb_bs, zb_up_n (by omega), h, zb_wa hn (by omega), zb_bs, zb_up_n (by omega), zb_up_n (by omega), h, zb_wa hn (by omega), zb_bs, zb_up_n (by omega), zb_up_n (by omega), zb_up_n (by omega), h, zb_wa hn (by omega), zb_bs,
    zb_up_n (by omega), zb_up_n (by omega), zb_up_n (by omega), zb_up_n (by omega), h, zb_wa hn (by omega), zb_bs, zb_up_n (by omega), zb_up_n (by omega), zb_up_n (by omega), zb_up_n (by omega), zb_up_n (by omega), h, zb_wa hn (by omega), zb_bs,
    zb_up_n (by omega), zb_up_n (by omega), zb_up_n (by omega), zb_up_n (by omega), zb_up_n (by omega), zb_up_n (by omega), h, nI_1, wf_up, zb_bs]
  rfl
theorem brM_mF (M : jm_M) (n : Nat) (k f v : Int32) : mF [2, 3, 4, 5, 6, 7, 8, 9, 10, 11, 12, 13] [13, 14, 15, 16] M (brM M n k f v) :=
  ((((((mF.one (by omega)).tr (mF.one (by omega))).tr (mF.one (by omega))).tr (mF.one (by omega))).tr (mF.one (by omega))).tr (mF.one (by omega))).tr (mF.fld (by decide))
/-- what the reference has of a book, where it is the newest -/
def brR (M M' : jm_M) (n : Nat) (k f v : Int32) : Prop := M' 0 0 14 = nI (n + 1) ∧ (∀ s, ¬ s = 14 → M' 0 0 s = M 0 0 s) ∧ (∀ j, ¬ j = 0 → (j < 5 ∨ 11 < j) → M' 0 j = M 0 j) ∧ (∀ j, 5 ≤ j → j ≤ 10 → ∀ i, ¬ i = n → M' 0 j i = M 0 j i) ∧ (∀ i, ¬ (4 * n ≤ i ∧ i < 4 * n + 4) → M' 0 11 i = M 0 11 i) ∧ M' 0 5 n = k ∧ M' 0 6 n = f ∧ M' 0 7 n = v ∧ M' 0 8 n = v ∧ M' 0 9 n = 0
theorem brM_R (M : jm_M) (n : Nat) (k f v : Int32) : brR M (brM M n k f v) n k f v := by
  unfold brM
  refine ⟨zb_up_s, fun s hs => ?_, fun j h0 hj => ?_, fun j h1 h2 i hi => ?_, fun i hi => ?_, ?_, ?_, ?_, ?_, ?_⟩
  · rw [zb_up_n (by omega), zb_up_n (by omega), zb_up_n (by omega), zb_up_n (by omega), zb_up_n (by omega), zb_up_n (by omega), zb_up_n (by omega)]
  · funext i
    rw [zb_up_n (by omega), zb_up_n (by omega), zb_up_n (by omega), zb_up_n (by omega), zb_up_n (by omega), zb_up_n (by omega), zb_up_n (by omega)]
  · rw [zb_up_n (by omega), zb_up_n (by omega), zb_up_n (by omega), zb_up_n (by omega), zb_up_n (by omega), zb_up_n (by omega), zb_up_n (by omega)]
  · rw [zb_up_n (by omega), zb_up_n (by omega), zb_up_n (by omega), zb_up_n (by omega), zb_up_n (by omega), zb_up_n (by omega), zb_up_n (by omega)]
  · rw [zb_up_n (by omega), zb_up_n (by omega), zb_up_n (by omega), zb_up_n (by omega), zb_up_n (by omega), zb_up_n (by omega), zb_up_s]
  · rw [zb_up_n (by omega), zb_up_n (by omega), zb_up_n (by omega), zb_up_n (by omega), zb_up_n (by omega), zb_up_s]
  · rw [zb_up_n (by omega), zb_up_n (by omega), zb_up_n (by omega), zb_up_n (by omega), zb_up_s]
  · rw [zb_up_n (by omega), zb_up_n (by omega), zb_up_n (by omega), zb_up_s]
  · rw [zb_up_n (by omega), zb_up_n (by omega), zb_up_s]
theorem brM_10 (M : jm_M) (n : Nat) (k f v : Int32) : brM M n k f v 0 10 n = 0 := by
  unfold brM
  rw [zb_up_n (by omega), zb_up_s]
/-- one letter more of the newest book -/
theorem M_isTitledMore {M : jm_M} {n l : Nat} (hn : n < 10) (hl : l < 4) (h : M 0 0 14 = nI (n + 1)) (h10 : M 0 10 n = nI l) (c : Int32) : sM_isTitledMore M c = some (jm_up (jm_up M 0 11 (4 * n + l) c) 0 10 n (nI (l + 1))) := by
  unfold sM_isTitledMore
  rw [h, show (1 : Int32) = nI 1 from rfl, pk_sub (by omega), Nat.add_sub_cancel, zb_bs, zb_rd hn (by omega), zb_bs, h10, zb_4, zb_wa (by omega) (by omega), zb_bs, zb_rd hn (by omega), zb_bs, zb_up_n (by omega), h10, show nI l + nI 1 = nI (l + 1) from nI_1 l, zb_wa hn (by omega), zb_bs]
theorem brR_more {M M' : jm_M} {n l : Nat} {k f v c : Int32} {d : Int32} (hl : l < 4) (h : brR M M' n k f v) : brR M (jm_up (jm_up M' 0 11 (4 * n + l) c) 0 10 n d) n k f v := by
  obtain ⟨h1, h2, h3, h4, h5, a5, a6, a7, a8, a9⟩ := h
  refine ⟨?_, fun s hs => ?_, fun j h0 hj => ?_, fun j q1 q2 i hi => ?_, fun i hi => ?_, ?_, ?_, ?_, ?_, ?_⟩
  · rw [zb_up_n (by omega), zb_up_n (by omega)]; exact h1
  · rw [zb_up_n (by omega), zb_up_n (by omega)]; exact h2 s hs
  · funext i
    rw [zb_up_n (by omega), zb_up_n (by omega), h3 j h0 hj]
  · rw [zb_up_n (by omega), zb_up_n (by omega)]; exact h4 j q1 q2 i hi
  · rw [zb_up_n (by omega), zb_up_n (by omega)]; exact h5 i hi
  · rw [zb_up_n (by omega), zb_up_n (by omega)]; exact a5
  · rw [zb_up_n (by omega), zb_up_n (by omega)]; exact a6
  · rw [zb_up_n (by omega), zb_up_n (by omega)]; exact a7
  · rw [zb_up_n (by omega), zb_up_n (by omega)]; exact a8
  · rw [zb_up_n (by omega), zb_up_n (by omega)]; exact a9
theorem TR_addB {T : jm_T} {M M' : jm_M} (hr : TR T (M 0)) (hn : nb T < 10) {k f v t : Int32} (h : brR M M' (nb T) k f v) (ht : ti (addB T k f v t) (M' 0) (nb T)) : TR (addB T k f v t) (M' 0) := by
  obtain ⟨h1, h2, h3, h4, h5, a5, a6, a7, a8, a9⟩ := h
  obtain ⟨n6, n7, n8, n9, n10, n11⟩ := addB_new T k f v t
  refine ⟨⟨?_, ?_, ?_, ?_⟩, ?_, ?_, ?_⟩
  · rw [h2 13 (by omega), addB_0 T k f v t 0 (by omega)]; exact hr.1.1
  · rw [h1, addB_04]
  · rw [h2 15 (by omega), addB_0 T k f v t 11 (by omega)]; exact hr.1.2.2.1
  · rw [h2 16 (by omega), addB_0 T k f v t 12 (by omega)]; exact hr.1.2.2.2
  · rw [addB_np, addB_j T k f v t 2 (by omega), addB_j T k f v t 3 (by omega), addB_j T k f v t 4 (by omega), h3 2 (by omega) (by omega), h3 3 (by omega) (by omega), h3 4 (by omega) (by omega)]
    exact hr.2.1
  · rw [addB_nb hn]
    intro b hb
    by_cases e : b = nb T
    · subst e
      rw [n6, n7, n8, n9, n10]
      exact ⟨a5, a6, a7, a8, a9, ht⟩
    · obtain ⟨b5, b6, b7, b8, b9, bt⟩ := hr.2.2.1 b (by omega)
      rw [addB_row T k f v t 6 b (by omega) e, addB_row T k f v t 7 b (by omega) e, addB_row T k f v t 8 b (by omega) e, addB_row T k f v t 9 b (by omega) e, addB_row T k f v t 10 b (by omega) e,
        h4 5 (by omega) (by omega) b e, h4 6 (by omega) (by omega) b e, h4 7 (by omega) (by omega) b e, h4 8 (by omega) (by omega) b e, h4 9 (by omega) (by omega) b e]
      exact ⟨b5, b6, b7, b8, b9, ti_e bt (addB_row T k f v t 11 b (by omega) e) (h4 10 (by omega) (by omega) b e) (fun i hi => h5 _ (by omega))⟩
  · rw [addB_ns, addB_j T k f v t 14 (by omega), addB_j T k f v t 15 (by omega), h3 12 (by omega) (by omega), h3 13 (by omega) (by omega)]
    exact hr.2.2.2
