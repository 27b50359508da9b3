/-! statements carried out: a book -/
section
variable {C M : jm_M} {X : jm_X} {n W s a : Nat}
theorem tl_ttV (hX : txX X n) {i : Nat} (h0 : 0 < tW X i) (h4 : tW X i ≤ 4) : tl (ttV X i) := by
  refine ⟨_, _, _, _, eD_d hX h0 h4, ?_⟩
  unfold ttV
  rw [if_neg (by omega), tvP_tl h0 h4]
theorem ttV_m1 (hX : txX X n) {i : Nat} (h0 : 0 < tW X i) : (ttV X i = -1) = (4 < tW X i) := by
  unfold ttV
  by_cases c : 4 < tW X i
  · rw [if_pos c]; exact propext ⟨fun _ => c, fun _ => rfl⟩
  · have := tl_lt (eD_d hX h0 (show tW X i ≤ 4 by omega))
    rw [if_neg c, tvP_tl h0 (by omega)]
    refine propext ⟨fun e => ?_, fun z => absurd z c⟩
    exact absurd (show (0 : Int32) ≤ -1 by rw [← e]; exact zb_nd2 (by omega)) (by decide)
/-- the letters of the newest book, one by one -/
theorem M_bookTitle {T : jm_T} (hx : txR M X n) {k f v : Int32} {i : Nat} (hn : nb T < 10) (hs : s < 49) (h0 : 0 < tW X i) (h4 : tW X i ≤ 4) (hi : i < 200) (h23 : M 0 23 s = nI i) (h24 : M 0 24 s = nI (tW X i)) : ∃ M', jm_loop (sM_comesBook_L83 (nI s)) jm_N (0, brM M (nb T) k f v) = some M' ∧ brR M M' (nb T) k f v ∧ coreF M M' ∧ ti (addB T k f v (ttV X i)) (M' 0) (nb T) := by
  obtain ⟨t1, t2, t3⟩ := tW_at hx.1 i
  have hnn := hx.1.1
  obtain ⟨e, e1, e2, e3, e4, e5⟩ := zb_ch (f := sM_comesBook_L83 (nI s)) (s := (0, brM M (nb T) k f v)) (fun (j : Nat) (u : Int32 × jm_M) => ∃ M', u = (nI j, M') ∧ brR M M' (nb T) k f v ∧ coreF M M' ∧ M' 0 10 (nb T) = nI j ∧ ∀ l, l < j → M' 0 11 (4 * nb T + l) = nI (X (i + l) - 97)) (fun M' => brR M M' (nb T) k f v ∧ coreF M M' ∧ M' 0 10 (nb T) = nI (tW X i) ∧ ∀ l, l < tW X i → M' 0 11 (4 * nb T + l) = nI (X (i + l) - 97)) (tW X i) (by omega)
    ⟨_, rfl, brM_R M (nb T) k f v, brM_mF M _ k f v, by rw [brM_10]; rfl, fun l hl => by omega⟩ (by
    intro j hj u hu
    obtain ⟨M', rfl, b1, f1, q1, l1⟩ := hu
    left
    have hl := t1 j hj
    have hlt := X_lt hx.1 (show ¬ X (i + j) = 999 by omega)
    have r24 : M' 0 24 s = nI (tW X i) := by rw [f1 0 24 s (by simp)]; exact h24
    have r23 : M' 0 23 s = nI i := by rw [f1 0 23 s (by simp)]; exact h23
    have r19 : M' 0 19 (i + j) = nI (X (i + j)) := by rw [f1 0 19 _ (by simp)]; exact hx.2 _ hlt
    unfold sM_comesBook_L83
    simp only []
    rw [zb_rd hs (by omega), zb_bs, r24, if_neg (zb_nle hj (by omega)), zb_rd hs (by omega), zb_bs, r23, nI_add, zb_rd (by omega) (by omega), zb_bs, r19, show (97 : Int32) = nI 97 from rfl, pk_sub (by omega), M_isTitledMore hn (by omega) b1.1 q1, zb_bs, nI_1]
    refine ⟨_, rfl, _, rfl, brR_more (by omega) b1, (f1.tr (mF.one (by omega))).tr (mF.one (by omega)), zb_up_s, fun l hl => ?_⟩
    by_cases g : l = j
    · subst g; rw [zb_up_n (by omega), zb_up_s]
    · rw [zb_up_n (by omega), zb_up_n (by omega)]; exact l1 l (by omega)) (by
    intro u hu
    obtain ⟨M', rfl, b1, f1, q1, l1⟩ := hu
    have r24 : M' 0 24 s = nI (tW X i) := by rw [f1 0 24 s (by simp)]; exact h24
    unfold sM_comesBook_L83
    simp only []
    rw [zb_rd hs (by omega), zb_bs, r24, if_pos (zb_yle (Nat.le_refl _) (by omega))]
    exact ⟨_, rfl, b1, f1, q1, l1⟩)
  have n1 : zb_N (e 0 10 (nb T)) = tW X i := by rw [e4, zb_N_nI (by omega)]
  have dk : ∀ k', dg (e 0) (nb T) k' = eD X i k' := by
    intro k'
    unfold dg eD
    rw [n1]
    by_cases c : k' < tW X i
    · have := t1 k' c
      rw [if_pos c, if_pos c, e5 k' c, zb_N_nI (by omega)]
      omega
    · rw [if_neg c, if_neg c]
  refine ⟨e, e1, e2, e3, by rw [e4]; exact ⟨_, h4, rfl⟩, by omega, fun k' hk => ?_, ?_⟩
  · rw [n1] at hk
    have := t1 k' hk
    rw [e5 k' hk]
    exact ⟨_, by omega, rfl⟩
  · rw [(addB_new T k f v (ttV X i)).2.2.2.2.2, dk, dk, dk, dk]
    unfold ttV
    rw [if_neg (by omega), tvP_tl h0 h4]
theorem ex_b (H : exH C M X n W s a) (hd : X a = 98) : exA C M X a (sS_takeBook (atP C (a + 1))) (sM_comesBook M (nI s) (nI (3 * s))) := by
  obtain ⟨h, hw, hz, hr, h17, hx, hrec, hs, ha, hok⟩ := H
  have h10 := hw.1.b
  obtain ⟨c1, c2, c3, c4, c5⟩ := hrec.2.2.2.1 hd
  have es : stm X a = dgt X (a + 1) 3 (tit X (a + 4)) := by unfold stm; rw [if_neg (by omega), if_pos hd]
  rw [es] at hok
  obtain ⟨d3, sk, e2⟩ := dgt_y hok
  obtain ⟨t0, -, s2, -⟩ := tit_lt h.1 sk
  have a3 : dC X (a + 1) 3 = if dC X (a + 1) 1 = 1 then 1 + dC X (a + 1 + 1) 2 else dC X (a + 1) 1 := dC_add X 2 1 (a + 1)
  have a2 : dC X (a + 1 + 1) 2 = if dC X (a + 1 + 1) 1 = 1 then 1 + dC X (a + 1 + 1 + 1) 1 else dC X (a + 1 + 1) 1 := dC_add X 1 1 (a + 1 + 1)
  have l1 := dC_le X 1 (a + 1)
  have l2 := dC_le X 1 (a + 1 + 1)
  have f1 : dC X (a + 1) 1 = 1 := Classical.byContradiction (fun z => by rw [if_neg z] at a3; omega)
  rw [if_pos f1] at a3
  have f2 : dC X (a + 1 + 1) 1 = 1 := Classical.byContradiction (fun z => by rw [if_neg z] at a2; omega)
  rw [if_pos f2] at a2
  have f3 : dC X (a + 1 + 1 + 1) 1 = 1 := by omega
  have n1 : sS_takeNumber (atP C (a + 1)) 1 = some (nI (nm X (a + 1) 1), atP C (a + 2)) := S_takeNumber (k := 1) h (by omega) (by omega) f1
  have n2 : sS_takeNumber (atP C (a + 2)) 1 = some (nI (nm X (a + 2) 1), atP C (a + 3)) := S_takeNumber (k := 1) h (by omega) (by omega) f2
  have n3 : sS_takeNumber (atP C (a + 3)) 1 = some (nI (nm X (a + 3) 1), atP C (a + 4)) := S_takeNumber (k := 1) h (by omega) (by omega) f3
  have n4 := S_takeTitle h (i := a + 4) (by omega)
  have p1 : 10 ^ 1 = 10 := by decide
  have m1 := nm_lt (X := X) f1
  have m2 := nm_lt (X := X) (i := a + 2) f2
  have m3 := nm_lt (X := X) (i := a + 3) f3
  have t3 : ∀ i, atP C i 3 = C 3 := fun i => atP_t (by omega)
  have tl96 := (tW_at h.1 (a + 4)).2.2
  obtain ⟨r, hf⟩ := zb_ff_ex (fun b => C 3 11 b = ttV X (a + 4)) (nb (C 3))
  have tb := M_titledBy hx hw.1 hr t0 (by omega) hs c4 c5 hf
  have em1 := ttV_m1 h.1 t0
  generalize nm X (a + 1) 1 = k at *
  generalize nm X (a + 2) 1 = f at *
  generalize nm X (a + 3) 1 = v at *
  have r3s : M 0 22 (3 * s) = nI k := c1
  unfold sS_takeBook sM_comesBook
  rw [n1, zb_bs, n2, zb_bs, n3, zb_bs, n4, zb_bs, zb_rd (by omega) (by omega), zb_bs, c1, show (2 : Int32) = nI 2 from rfl, nI_add, zb_rd (by omega) (by omega), zb_bs, c3, zb_rd hs (by omega), zb_bs, c5, tb, zb_bs]
  simp only []
  rw [T_hasKeeper_x (by rw [t3]; exact hw.1), zb_bs, M_isPlace_x hw.1 hr, zb_bs, T_bookWithTitle (by rw [t3]; exact hw.1) (r := r) (by rw [t3]; exact hf), zb_bs, t3, h10.1, hr.1.2.1, h10.1]
  by_cases q1 : 8 ≤ k
  · rw [if_pos (show (8 : Int32) ≤ nI k from zb_yle (a := 8) q1 (by omega)), if_pos (show (8 : Int32) ≤ nI k from zb_yle (a := 8) q1 (by omega))]
    exact exA_no hz
  rw [if_neg (show ¬ (8 : Int32) ≤ nI k from zb_nle (a := 8) (by omega) (by omega)), if_neg (show ¬ (8 : Int32) ≤ nI k from zb_nle (a := 8) (by omega) (by omega))]
  by_cases h3 : (if nI v = 9 then (1 : Int32) else if noP (C 3) (nI v) then 0 else 1) = 0
  · rw [if_pos h3, if_pos h3]
    exact exA_no hz
  have hpl : pl (C 3) (nI v) := by
    by_cases e : nI v = 9
    · exact Or.inl e
    · by_cases e2 : noP (C 3) (nI v)
      · rw [if_neg e, if_pos e2] at h3; exact absurd rfl h3
      · exact Or.inr (isP hw.1 e2)
  rw [if_neg h3, if_neg h3]
  by_cases q2 : 4 < tW X (a + 4)
  · rw [if_pos (em1.mpr q2), ite_self, if_pos (show (4 : Int32) < nI (tW X (a + 4)) by rw [show (4 : Int32) = nI 4 from rfl, zb_lt (by omega) (by omega)]; exact q2)]
    exact exA_no hz
  rw [if_neg (fun z => q2 (em1.mp z)), if_neg (show ¬ (4 : Int32) < nI (tW X (a + 4)) by rw [show (4 : Int32) = nI 4 from rfl, zb_lt (by omega) (by omega)]; exact q2)]
  cases r with
  | some b =>
    have hb := hf.1
    rw [if_neg (show ¬ zb_o (some b) = -9 from zb_m9 (by omega)), ite_self, if_pos (show (0 : Int32) ≤ zb_o (some b) from zb_nd2 (by omega))]
    exact exA_no hz
  | none =>
    rw [if_pos (show zb_o none = -9 from rfl), if_neg (show ¬ (0 : Int32) ≤ zb_o none by decide)]
    by_cases q3 : nb (C 3) = 10
    · rw [q3, if_pos (show (10 : Int32) ≤ nI 10 by decide), if_pos (show nI 10 = (10 : Int32) from rfl)]
      exact exA_no hz
    · have hn : nb (C 3) < 10 := by omega
      have hwB := wf_addB hw hn (k := nI k) (f := nI f) (v := nI v) ⟨k, by omega, rfl⟩ ⟨f, by omega, rfl⟩ hpl (tl_ttV h.1 t0 (by omega)) hf
      obtain ⟨M', y1, y2, y3, y4⟩ := M_bookTitle (T := C 3) (k := nI k) (f := nI f) (v := nI v) hx hn hs t0 (by omega) (by omega) c4 c5
      rw [if_neg (show ¬ (10 : Int32) ≤ nI (nb (C 3)) from zb_nle (a := 10) hn (by omega)), if_neg (show ¬ nI (nb (C 3)) = (10 : Int32) by rw [show (10 : Int32) = nI 10 from rfl, zb_eq (by omega) (by omega)]; exact q3), T_addBook (by rw [t3]; exact hw.1) (by rw [t3]; exact hn), zb_bs, t3, atP_s (by omega), zb_bs, nI_1, zb_rd (by omega) (by omega), zb_bs, zb_bs, c2, M_isBrought hn (by rw [hr.1.2.1]; exact h10.1), zb_bs, y1, zb_bs]
      refine exA_yes (ZT_addB hz hn _ _ _ _) y3 ?_ hwB (TR_addB hr hn y2 y4)
      rw [es, e2, s2]
end
