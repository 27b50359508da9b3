/-! the reference's weeks -/
/-- of the group 0 only these cells, and of its fields only these, may have changed -/
noncomputable def mF (S : List Nat) (F : List Nat) (M M' : jm_M) : Prop := ∀ a j k, ¬ (a = 0 ∧ (j ∈ S ∨ (j = 0 ∧ k ∈ F))) → M' a j k = M a j k
theorem mF.rf {S F : List Nat} {M : jm_M} : mF S F M M := fun _ _ _ _ => rfl
theorem mF.tr {S F : List Nat} {M M' M'' : jm_M} (h : mF S F M M') (h' : mF S F M' M'') : mF S F M M'' := fun a j k q => (h' a j k q).trans (h a j k q)
theorem mF.mono {S F S' F' : List Nat} {M M' : jm_M} (h : mF S F M M') (hs : ∀ x ∈ S, x ∈ S') (hf : ∀ x ∈ F, x ∈ F') : mF S' F' M M' := fun a j k q => h a j k (fun e => q ⟨e.1, e.2.elim (fun e => Or.inl (hs _ e)) (fun e => Or.inr ⟨e.1, hf _ e.2⟩)⟩)
theorem mF.up {S F : List Nat} {M : jm_M} {j i : Nat} {v : Int32} (h : j ∈ S ∨ (j = 0 ∧ i ∈ F)) : mF S F M (jm_up M 0 j i v) := by
  intro a b k q
  refine zb_up_n (fun e => q ?_)
  obtain ⟨rfl, rfl, rfl⟩ := e
  exact ⟨rfl, h⟩
section
variable {T : jm_T} {M : jm_M} {w : Nat}
theorem M_hasrd (hw : wfT w T) {p b : Nat} (hp : p < np T) (hb : b < nb T) : (hbit (T 10 b) p) = (¬ ts_rd T p b = 0) := by
  obtain ⟨r, h1, h2, e⟩ := hw.rd hb
  have h6 := hw.1.p.2
  unfold hbit ts_rd
  rw [e]
  rcases zb_rd01 r h1 p (by omega) with h | h
  · rw [h]; simp
  · rw [h]; simp
theorem M_toRead (hw : wfT w T) (hr : TR T (M 0)) {p : Nat} (hp : p < np T) : sM_toRead M (nI p) = some (zb_o (nx T p (nb T))) := by
  have h := hw.1.b
  unfold sM_toRead
  refine zb_forB (fun k => (zb_o (nx T p k), nI k)) (zb_o (nx T p (nb T))) (nb T) rfl ?_ ?_ (by omega) rfl
  · intro k hk
    obtain ⟨g5, g6, g7, g8, g9, gt⟩ := hr.2.2.1 k hk
    unfold sM_toRead_L5
    rw [hr.1.2.1, h.1, if_neg (zb_nle hk (by omega))]
    simp only [zb_rd (show k < 10 by omega) (show 10 < 2000 by omega), zb_bs, g8, g9, M_has, nI_1]
    have e : nx T p (k + 1) = nxF T p k (nx T p k) := rfl
    have hl := nx_lt T p k
    rw [e]
    generalize nx T p k = o at hl ⊢
    unfold nxF
    by_cases h1 : T 9 k = nI p
    · have hh := M_hasrd hw hp hk
      by_cases h2 : ts_rd T p k = 0
      · have h3 : ¬ hbit (T 10 k) p := by rw [hh]; simp [h2]
        cases o with
        | none => simp [h1, h2, h3, lessT, zb_o]
        | some c =>
          have hck := hl c rfl
          obtain ⟨x, e1, e2⟩ := M_compares hr hw.1 hk (show c < nb T by omega)
          simp only [h1, h2, h3, zb_o, if_true, if_false, true_and, zb_nd (show c < 1000000 by omega), e1, zb_bs, lessT]
          by_cases h4 : T 11 c ≤ T 11 k
          · have h5 : 0 ≤ x := by rw [e2]; exact h4
            simp [h4, h5, zb_o]
          · have h5 : ¬ 0 ≤ x := by rw [e2]; exact h4
            simp [h4, h5, zb_o]
      · have h3 : hbit (T 10 k) p := by rw [hh]; exact h2
        simp [h1, h2, h3]
    · simp [h1]
  · unfold sM_toRead_L5
    rw [hr.1.2.1, h.1, if_pos (zb_yle (Nat.le_refl _) (by omega))]
theorem TR_up2 (hr : TR T (M 0)) {p : Nat} {v : Int32} : TR (pt T 2 p v) (jm_up M 0 2 p v 0) := by
  have e : ∀ j, ¬ j = 2 → jm_up M 0 2 p v 0 j = M 0 j := fun j hj => by funext k; exact zb_up_n (by omega)
  refine ⟨?_, ?_, ?_, ?_⟩
  · rw [e 0 (by omega), pt_j (by omega)]; exact hr.1
  · rw [np_e (T := T) (by rw [pt_j (by omega)]), e 3 (by omega), e 4 (by omega), pt_j (show ¬ 3 = 2 by omega), pt_j (show ¬ 4 = 2 by omega)]
    intro q hq
    obtain ⟨a1, a2, a3⟩ := hr.2.1 q hq
    refine ⟨?_, a2, a3⟩
    by_cases h : q = p
    · subst h; rw [zb_up_s, pt_s]
    · rw [zb_up_n (by omega), pt_k h]; exact a1
  · rw [nb_e (T := T) (by rw [pt_j (by omega)]), e 5 (by omega), e 6 (by omega), e 7 (by omega), e 8 (by omega), e 9 (by omega), pt_j (show ¬ 6 = 2 by omega), pt_j (show ¬ 7 = 2 by omega), pt_j (show ¬ 8 = 2 by omega), pt_j (show ¬ 9 = 2 by omega), pt_j (show ¬ 10 = 2 by omega)]
    intro b hb
    obtain ⟨a1, a2, a3, a4, a5, a6⟩ := hr.2.2.1 b hb
    refine ⟨a1, a2, a3, a4, a5, ?_⟩
    unfold ti dg at a6 ⊢
    rw [e 10 (by omega), e 11 (by omega), pt_j (by omega)]
    exact a6
  · rw [ns_e (T := T) (by rw [pt_j (by omega)]), e 12 (by omega), e 13 (by omega), pt_j (by omega), pt_j (by omega)]; exact hr.2.2.2
theorem TR_rdB (hr : TR T (M 0)) {p c : Nat} {M' : jm_M} (h9 : ∀ b, b < nb T → M' 0 9 b = if b = c then T 10 c ||| (1 <<< (nI p &&& 31)) else T 10 b) (h8 : ∀ b, b < nb T → M' 0 8 b = if b = c then T 8 c else T 9 b) (hF : ∀ j, ¬ j = 8 → ¬ j = 9 → M' 0 j = M 0 j) : TR (rdB T p c) (M' 0) := by
  unfold rdB
  refine ⟨?_, ?_, ?_, ?_⟩
  · rw [hF 0 (by omega) (by omega), pt_j (by omega), pt_j (by omega)]; exact hr.1
  · rw [np_e (T := T) (by rw [pt_j (by omega), pt_j (by omega)]), hF 2 (by omega) (by omega), hF 3 (by omega) (by omega), hF 4 (by omega) (by omega), pt_j (by omega), pt_j (by omega), pt_j (by omega), pt_j (by omega), pt_j (by omega), pt_j (by omega)]; exact hr.2.1
  · rw [nb_e (T := T) (by rw [pt_j (by omega), pt_j (by omega)]), hF 5 (by omega) (by omega), hF 6 (by omega) (by omega), hF 7 (by omega) (by omega), pt_j (show ¬ 6 = 9 by omega), pt_j (show ¬ 6 = 10 by omega), pt_j (show ¬ 7 = 9 by omega), pt_j (show ¬ 7 = 10 by omega), pt_j (show ¬ 8 = 9 by omega), pt_j (show ¬ 8 = 10 by omega), pt_j (show ¬ 10 = 9 by omega)]
    intro b hb
    obtain ⟨a1, a2, a3, a4, a5, a6⟩ := hr.2.2.1 b hb
    refine ⟨a1, a2, a3, ?_, ?_, ?_⟩
    · rw [h8 b hb]
      by_cases e : b = c
      · subst e; rw [if_pos rfl, pt_s]
      · rw [if_neg e, pt_k e, pt_j (by omega)]
    · rw [h9 b hb]
      by_cases e : b = c
      · subst e; rw [if_pos rfl, pt_s]
      · rw [if_neg e, pt_k e]
    · unfold ti dg at a6 ⊢
      rw [hF 10 (by omega) (by omega), hF 11 (by omega) (by omega), pt_j (by omega), pt_j (by omega)]
      exact a6
  · rw [ns_e (T := T) (by rw [pt_j (by omega), pt_j (by omega)]), hF 12 (by omega) (by omega), hF 13 (by omega) (by omega), pt_j (by omega), pt_j (by omega), pt_j (by omega), pt_j (by omega)]; exact hr.2.2.2
theorem M_goesPerson (hw : wfT w T) (hw2 : w < 1000000) (hr : TR T (M 0)) {p : Nat} (hp : p < np T) (r : Bool) (hd : (M 0 0 17 = 0) = (r = true)) : ∃ M', sM_goesPerson M (nI p) = some M' ∧ TR (goP r p T) (M' 0) ∧ mF [2, 8, 9] [] M M' := by
  have h6 := hw.1.p.2
  have h10 := hw.1.b.2
  obtain ⟨ew, hwk⟩ := hw.w hw2
  obtain ⟨⟨x, hx, ex⟩, ⟨a, ha, ea⟩, -⟩ := hw.2.2.1 p hp
  obtain ⟨g2, g3, g4⟩ := hr.2.1 p hp
  unfold sM_goesPerson
  rw [zb_rd (by omega) (by omega), g3, ea, hr.1.2.2.1, ew, zb_bs, show nI a + 2 = nI (a + 2) from by rw [show (2 : Int32) = nI 2 from rfl, nI_add], zb_rm (by omega) (by omega) (by omega), zb_bs]
  -- the weight
  have st1 : ∃ M1, (if nI (nw T % (a + 2)) = 0 then (jm_rd 6 (M 0 2) (nI p)).bind fun v5 => if 99 ≤ v5 then some M else (jm_rd 6 (M 0 2) (nI p)).bind fun v7 => (jm_wa 6 M 0 2 (nI p) (v7 + 1)).bind fun M8 => some M8 else some M) = some M1 ∧ TR (eaN p T) (M1 0) ∧ mF [2, 8, 9] [] M M1 := by
    have ec : (¬ (T 3 p + 2 ≤ 0) ∧ T 0 11 - T 0 11 / (T 3 p + 2) * (T 3 p + 2) = 0) = (nI (nw T % (a + 2)) = 0) := by
      rw [ea, ew, show nI a + 2 = nI (a + 2) from by rw [show (2 : Int32) = nI 2 from rfl, nI_add], pk_rem (by omega) (by omega) (by omega)]
      have : ¬ nI (a + 2) ≤ 0 := zb_nle (b := 0) (by omega) (by omega)
      simp [this]
    unfold eaN
    by_cases hc : nI (nw T % (a + 2)) = 0
    · rw [if_pos hc, if_pos (by rw [ec]; exact hc), zb_rd (by omega) (by omega), zb_bs, g2, ex]
      rcases Nat.lt_or_ge x 99 with h | h
      · rw [if_neg (show ¬ (99 : Int32) ≤ nI x from zb_nle (a := 99) h (by omega)), zb_bs, zb_wa (by omega) (by omega), zb_bs, nI_1]
        refine ⟨_, rfl, ?_, mF.up (Or.inl (by decide))⟩
        rw [show (99 : Int32) = nI 99 from rfl, zb_minI (by omega) (by omega), Nat.min_eq_right (by omega)]
        exact TR_up2 hr
      · rw [if_pos (show (99 : Int32) ≤ nI x from zb_yle (a := 99) h (by omega))]
        refine ⟨_, rfl, ?_, mF.rf⟩
        rw [nI_1, show (99 : Int32) = nI 99 from rfl, zb_minI (by omega) (by omega), Nat.min_eq_left (by omega)]
        have : x = 99 := by omega
        subst this
        have e : pt T 2 p (nI 99) = T := by
          funext b k
          unfold pt
          split
          next h => rw [h.1, h.2, ex]
          next => rfl
        rw [e]
        exact hr
    · rw [if_neg hc, if_neg (by rw [ec]; exact hc)]
      exact ⟨_, rfl, hr, mF.rf⟩
  obtain ⟨M1, e1, hr1, hf1⟩ := st1
  rw [e1, zb_bs]
  have hd1 : M1 0 0 17 = M 0 0 17 := hf1 0 0 17 (by decide)
  have hw1 := wf_eaN hw hp
  have ep : np (eaN p T) = np T := np_e (by rw [eaN_0 _ _ _ (by omega)])
  unfold goP
  cases r with
  | false =>
    have h0 : ¬ M1 0 0 17 = 0 := by rw [hd1, hd]; simp
    rw [if_neg h0, zb_bs, if_neg (by decide)]
    exact ⟨_, rfl, by simpa using hr1, hf1⟩
  | true =>
    have h0 : M1 0 0 17 = 0 := by rw [hd1, hd]
    rw [if_pos h0, M_toRead hw1 hr1 (by rw [ep]; exact hp), zb_bs, zb_bs, if_pos rfl]
    unfold rdN
    have hl := nx_lt (eaN p T) p (nb (eaN p T))
    have hb10 := hw1.1.b.2
    generalize nx (eaN p T) p (nb (eaN p T)) = o at hl ⊢
    cases o with
    | none =>
      rw [if_neg (by decide)]
      exact ⟨_, rfl, hr1, hf1⟩
    | some c =>
      have hc := hl c rfl
      obtain ⟨g5, g6, g7, g8, g9, gt⟩ := hr1.2.2.1 c hc
      rw [show zb_o (some c) = nI c from rfl, if_pos (zb_nd2 (by omega)), zb_rd (by omega) (by omega), zb_bs, zb_wa (by omega) (by omega), zb_bs, zb_rd (by omega) (by omega), zb_bs, zb_wa (by omega) (by omega), zb_bs]
      refine ⟨_, rfl, ?_, hf1.tr ((mF.up (Or.inl (by decide))).tr (mF.up (Or.inl (by decide))))⟩
      refine TR_rdB hr1 ?_ ?_ ?_
      · intro b hb
        rw [zb_up_n (by omega)]
        by_cases e : b = c
        · subst e; rw [zb_up_s, if_pos rfl, g9]
        · rw [zb_up_n (by omega), if_neg e]; exact (hr1.2.2.1 b hb).2.2.2.2.1
      · intro b hb
        by_cases e : b = c
        · subst e; rw [zb_up_s, if_pos rfl, zb_up_n (by omega), g7]
        · rw [zb_up_n (by omega), zb_up_n (by omega), if_neg e]; exact (hr1.2.2.1 b hb).2.2.2.1
      · intro j h1 h2
        funext k
        rw [zb_up_n (by omega), zb_up_n (by omega)]
end
