/-! statements carried out: people, weeks, readings, holders -/
def coreF (M M' : jm_M) : Prop := mF [2, 3, 4, 5, 6, 7, 8, 9, 10, 11, 12, 13] [13, 14, 15, 16] M M'
def exH (C M : jm_M) (X : jm_X) (n W s a : Nat) : Prop := txC C X n ∧ wfT 999 (C 3) ∧ ZT (C 3) ∧ TR (C 3) (M 0) ∧ M 0 0 17 = 0 ∧ txR M X n ∧ rec_ X M W s a ∧ s < 49 ∧ (a < 97 ∧ W ≤ 96) ∧ (stm X a).1 = true
def exA (C M : jm_M) (X : jm_X) (a : Nat) (r1 r2 : Option (Int32 × jm_M)) : Prop := ∃ ok T' p M', r1 = some (bI ok, atP (stT C 3 T') p) ∧ r2 = some (bI ok, M') ∧ ZT T' ∧ coreF M M' ∧ (ok = true → p + 1 = (stm X a).2 ∧ wfT 999 T' ∧ TR T' (M' 0))
theorem exA_bz {C M : jm_M} {X : jm_X} {a : Nat} {r1 r2 : Option (Int32 × jm_M)} (h : exA C M X a r1 r2) : exA C M X a (r1.bind (fun r => (jm_bz r.1).bind (fun x => some (x, r.2)))) (r2.bind (fun r => (jm_bz r.1).bind (fun x => some (x, r.2)))) := by
  obtain ⟨ok, T', p, M', rfl, rfl, h⟩ := h
  rw [zb_bs, zb_bs]
  simp only [bI_z]
  rw [zb_bs, zb_bs]
  exact ⟨ok, T', p, M', rfl, rfl, h⟩
theorem coreF.rf {M : jm_M} : coreF M M := mF.rf
section
variable {C M : jm_M} {X : jm_X} {n W s a : Nat}
theorem exA_no (hz : ZT (C 3)) {p : Nat} : exA C M X a (some (0, atP C p)) (some (0, M)) := ⟨false, C 3, p, M, by rw [stT_self]; rfl, rfl, hz, coreF.rf, fun z => by cases z⟩
theorem exA_yes {T' : jm_T} {p : Nat} {M' : jm_M} (hz : ZT T') (hf : coreF M M') (hp : p + 1 = (stm X a).2) (hw : wfT 999 T') (hr : TR T' (M' 0)) : exA C M X a (some (1, atP (stT C 3 T') p)) (some (1, M')) := ⟨true, T', p, M', rfl, rfl, hz, hf, fun _ => ⟨hp, hw, hr⟩⟩
theorem ex_p (H : exH C M X n W s a) (hd : X a = 112) : exA C M X a (sS_takePerson (atP C (a + 1))) (sM_comesPerson M (nI (3 * s))) := by
  obtain ⟨h, hw, hz, hr, h17, hx, hrec, hs, ha, hok⟩ := H
  have h6 := hw.1.p
  obtain ⟨c1, c2, c3⟩ := hrec.2.2.1 hd
  have es : stm X a = dgt X (a + 1) 5 (sem X (a + 6)) := by unfold stm; rw [if_pos hd]
  rw [es] at hok
  obtain ⟨d5, sk, e2⟩ := dgt_y hok
  obtain ⟨-, s2, -⟩ := sem_lt h.1 sk
  have a5 : dC X (a + 1) 5 = if dC X (a + 1) 2 = 2 then 2 + dC X (a + 1 + 2) 3 else dC X (a + 1) 2 := dC_add X 3 2 (a + 1)
  have a3 : dC X (a + 1 + 2) 3 = if dC X (a + 1 + 2) 1 = 1 then 1 + dC X (a + 1 + 2 + 1) 2 else dC X (a + 1 + 2) 1 := dC_add X 2 1 (a + 1 + 2)
  have l1 := dC_le X 2 (a + 1)
  have l2 := dC_le X 1 (a + 1 + 2)
  have d2 : dC X (a + 1) 2 = 2 := Classical.byContradiction (fun z => by rw [if_neg z] at a5; omega)
  rw [if_pos d2] at a5
  have d1 : dC X (a + 1 + 2) 1 = 1 := Classical.byContradiction (fun z => by rw [if_neg z] at a3; omega)
  rw [if_pos d1] at a3
  have d2' : dC X (a + 1 + 2 + 1) 2 = 2 := by omega
  have n1 : sS_takeNumber (atP C (a + 1)) 2 = some (nI (nm X (a + 1) 2), atP C (a + 3)) := S_takeNumber (k := 2) h (by omega) (by omega) d2
  have n2 : sS_takeNumber (atP C (a + 3)) 1 = some (nI (nm X (a + 3) 1), atP C (a + 4)) := S_takeNumber (k := 1) h (by omega) (by omega) d1
  have n3 : sS_takeNumber (atP C (a + 4)) 2 = some (nI (nm X (a + 4) 2), atP C (a + 6)) := S_takeNumber (k := 2) h (by omega) (by omega) d2'
  have p2 : 10 ^ 2 = 100 := by decide
  have p1 : 10 ^ 1 = 10 := by decide
  have m1 := nm_lt d2
  have m2 := nm_lt (X := X) (i := a + 3) d1
  have m3 := nm_lt (X := X) (i := a + 4) d2'
  unfold sS_takePerson sM_comesPerson
  rw [n1, zb_bs, n2, zb_bs, n3, zb_bs]
  simp only []
  rw [atP_t (show ¬ 3 = 14 by omega), h6.1, hr.1.1, h6.1]
  by_cases c : np (C 3) = 6
  · rw [c, if_neg (by decide), if_pos (by decide)]
    exact exA_no hz
  · have hn : np (C 3) < 6 := by omega
    rw [if_pos (show nI (np (C 3)) < (6 : Int32) from by rw [show (6 : Int32) = nI 6 from rfl, zb_lt (by omega) (by omega)]; exact hn), if_neg (show ¬ nI (np (C 3)) = (6 : Int32) from by rw [show (6 : Int32) = nI 6 from rfl, zb_eq (by omega) (by omega)]; exact c), T_addPerson (by rw [atP_t (by omega)]; exact hw.1) (by rw [atP_t (by omega)]; exact hn), zb_bs, atP_t (show ¬ 3 = 14 by omega), atP_s (by omega), zb_rd (by omega) (by omega), zb_bs, nI_1, zb_rd (by omega) (by omega), zb_bs, show (2 : Int32) = nI 2 from rfl, nI_add, zb_rd (by omega) (by omega), zb_bs, c1, c2, c3, M_isMore hn (by rw [hr.1.1]; exact h6.1), zb_bs]
    refine exA_yes (ZT_addP hz hn _ _ _) ((((mF.one (by omega)).tr (mF.one (by omega))).tr (mF.one (by omega))).tr (mF.fld (by decide))) ?_ (wf_addP hw hn ⟨_, by omega, rfl⟩ ⟨_, by omega, rfl⟩ ⟨_, by omega, rfl⟩) (TR_addP hr hn _ _ _)
    rw [es, e2, s2]
theorem ex_w (H : exH C M X n W s a) (hd : X a = 119) : exA C M X a (sS_takeWeeks (atP C (a + 1))) ((jm_rd 147 (M 0 22) (nI (3 * s))).bind (fun v23 => sM_comesWeeks M v23)) := by
  obtain ⟨h, hw, hz, hr, h17, hx, hrec, hs, ha, hok⟩ := H
  obtain ⟨ew, hwk⟩ := hw.w (by omega)
  have c1 := hrec.2.2.2.2.2.1 hd
  have es : stm X a = dgt X (a + 1) 2 (sem X (a + 3)) := by unfold stm; rw [if_neg (by omega), if_neg (by omega), if_neg (by omega), if_pos hd]
  rw [es] at hok
  obtain ⟨d2, sk, e2⟩ := dgt_y hok
  obtain ⟨-, s2, -⟩ := sem_lt h.1 sk
  have n1 : sS_takeNumber (atP C (a + 1)) 2 = some (nI (nm X (a + 1) 2), atP C (a + 3)) := S_takeNumber (k := 2) h (by omega) (by omega) d2
  have m1 := nm_lt d2
  have p2 : 10 ^ 2 = 100 := by decide
  unfold sS_takeWeeks sM_comesWeeks sM_isIn
  rw [n1, zb_bs, zb_rd (by omega) (by omega), zb_bs, c1]
  simp only []
  generalize nm X (a + 1) 2 = k at *
  rw [atP_t (show ¬ 3 = 14 by omega), ew, hr.1.2.2.1, ew, nI_add]
  by_cases a1 : k < 1
  · rw [if_pos (show nI k < (1 : Int32) by rw [show (1 : Int32) = nI 1 from rfl, zb_lt (by omega) (by omega)]; exact a1), if_pos (show nI k < (1 : Int32) by rw [show (1 : Int32) = nI 1 from rfl, zb_lt (by omega) (by omega)]; exact a1), zb_bs, if_pos rfl]
    exact exA_no hz
  rw [if_neg (show ¬ nI k < (1 : Int32) by rw [show (1 : Int32) = nI 1 from rfl, zb_lt (by omega) (by omega)]; exact a1), if_neg (show ¬ nI k < (1 : Int32) by rw [show (1 : Int32) = nI 1 from rfl, zb_lt (by omega) (by omega)]; exact a1)]
  by_cases a2 : 60 < k
  · rw [if_pos (show (60 : Int32) < nI k by rw [show (60 : Int32) = nI 60 from rfl, zb_lt (by omega) (by omega)]; exact a2), if_pos (show (60 : Int32) < nI k by rw [show (60 : Int32) = nI 60 from rfl, zb_lt (by omega) (by omega)]; exact a2), zb_bs, if_pos rfl]
    exact exA_no hz
  rw [if_neg (show ¬ (60 : Int32) < nI k by rw [show (60 : Int32) = nI 60 from rfl, zb_lt (by omega) (by omega)]; exact a2), if_neg (show ¬ (60 : Int32) < nI k by rw [show (60 : Int32) = nI 60 from rfl, zb_lt (by omega) (by omega)]; exact a2), zb_bs, if_neg (show ¬ (1 : Int32) = 0 by decide)]
  by_cases a3 : nw (C 3) + k ≤ 999
  · have hw1 : wfT (nw (C 3)) (C 3) := ⟨hw.1, ⟨nw (C 3), Nat.le_refl _, ew⟩, hw.2.2⟩
    obtain ⟨M2, e4, hr2, f2⟩ := M_goes hw1 (n := k) (by omega) hr h17
    have hwn := wf_wkN k hw1
    rw [if_pos (show nI (nw (C 3) + k) ≤ (999 : Int32) from zb_yle (b := 999) a3 (by omega)), if_pos (show nI (nw (C 3) + k) ≤ (999 : Int32) from zb_yle (b := 999) a3 (by omega)), e4, zb_bs, T_weeksPass (by rw [atP_t (by omega)]; exact hw.1) (by omega), zb_bs, atP_t (show ¬ 3 = 14 by omega), atP_s (by omega)]
    refine exA_yes (ZT_wkN hz k hw.1) (f2.mono (fun x h => by simp at h ⊢; omega) (fun x h => by simp at h ⊢; omega)) ?_ ⟨hwn.1, zb_in_mono hwn.2.1 a3, hwn.2.2⟩ hr2
    rw [es, e2, s2]
  · have a3' : ¬ nI (nw (C 3) + k) ≤ (999 : Int32) := zb_nle (b := 999) (by omega) (by omega)
    rw [if_neg a3', if_neg a3']
    exact exA_no hz
/-- the head of a reading or a holder -/
theorem rh_head (H : exH C M X n W s a) (hd : X a = 114 ∨ X a = 104) : ∃ d, d ≤ 9 ∧ sS_takeNumber (atP C (a + 1)) 1 = some (nI d, atP C (a + 2)) ∧ sS_takeTitle (atP C (a + 2)) = some (ttV X (a + 2), atP C (a + 2 + tW X (a + 2))) ∧ M 0 22 (3 * s) = nI d ∧ (∀ r, zb_ff (fun b => C 3 11 b = ttV X (a + 2)) (nb (C 3)) r → sM_titledBy M (nI s) = some (zb_o r)) ∧ (stm X a).2 = a + 2 + tW X (a + 2) + 1 := by
  obtain ⟨h, hw, hz, hr, h17, hx, hrec, hs, ha, hok⟩ := H
  obtain ⟨c1, c2, c3⟩ := hrec.2.2.2.2.1 hd
  have es : stm X a = dgt X (a + 1) 1 (tit X (a + 2)) := by unfold stm; rw [if_neg (by omega), if_neg (by omega), if_neg (by omega), if_neg (by omega), if_pos hd]
  rw [es] at hok
  obtain ⟨d1, sk, e2⟩ := dgt_y hok
  obtain ⟨t0, -, s2, -⟩ := tit_lt h.1 sk
  have n1 : sS_takeNumber (atP C (a + 1)) 1 = some (nI (nm X (a + 1) 1), atP C (a + 2)) := S_takeNumber (k := 1) h (by omega) (by omega) d1
  have m1 := nm_lt d1
  have p1 : 10 ^ 1 = 10 := by decide
  exact ⟨_, by omega, n1, S_takeTitle h (by omega), c1, fun r hf => M_titledBy hx hw.1 hr t0 (by omega) hs c2 c3 hf, by rw [es, e2, s2]⟩
theorem ex_r (H : exH C M X n W s a) (hd : X a = 114) : exA C M X a (sS_takeReading (atP C (a + 1))) (sM_comesReading M (nI s) (nI (3 * s))) := by
  obtain ⟨d, d9, n1, n2, c1, tb, ep⟩ := rh_head H (Or.inl hd)
  obtain ⟨h, hw, hz, hr, h17, hx, hrec, hs, ha, hok⟩ := H
  have h10 := hw.1.b.2
  have t3 : ∀ i, atP C i 3 = C 3 := fun i => atP_t (by omega)
  obtain ⟨r, hf⟩ := zb_ff_ex (fun b => C 3 11 b = ttV X (a + 2)) (nb (C 3))
  have tb := tb r hf
  unfold sS_takeReading sM_comesReading
  rw [n1, zb_bs, n2, zb_bs, tb, zb_bs, zb_rd (by omega) (by omega), zb_bs, c1]
  simp only []
  rw [T_bookWithTitle (by rw [t3]; exact hw.1) (r := r) (by rw [t3]; exact hf), zb_bs, T_hasPerson_x (by rw [t3]; exact hw.1), zb_bs, T_hasBook_x (by rw [t3]; exact hw.1), zb_bs, M_isPerson_x hw.1 hr, zb_bs, t3]
  by_cases a1 : noP (C 3) (nI d)
  · rw [if_pos a1, zb_i00, zb_i00]
    exact exA_no hz
  · rw [if_neg a1, zb_i10, zb_i10]
    obtain ⟨p, hp, ep2⟩ := isP hw.1 a1
    rw [ep2]
    cases r with
    | none =>
      rw [if_pos (show noB (C 3) (zb_o none) from Or.inl (by decide)), zb_i00, if_neg (show ¬ (0 : Int32) ≤ zb_o none by decide)]
      exact exA_no hz
    | some b =>
      have hb := hf.1
      obtain ⟨g5, g6, g7, g8, g9, -⟩ := hr.2.2.1 b hb
      rw [if_neg (show ¬ noB (C 3) (zb_o (some b)) from fun z => z.elim (fun z => zb_nd (by omega) z) (fun z => zb_nle hb (by omega) z)), zb_i10, if_pos (show (0 : Int32) ≤ zb_o (some b) from zb_nd2 (by omega)), show zb_o (some b) = nI b from rfl, zb_rd (by omega) (by omega), zb_bs, wa_st (by omega) (by omega), zb_bs, zb_rd (by omega) (by omega), zb_bs, zb_bs, zb_wa (by omega) (by omega), zb_bs, t3, atP_s (by omega), g9]
      exact exA_yes (ZT_pt hz (Or.inr (Or.inr ⟨by omega, by omega⟩))) (mF.one (by omega)) (by omega) (wf_read hw hp hb) (TR_upJ hr (by omega))
theorem ex_h (H : exH C M X n W s a) (hd : X a = 104) : exA C M X a (sS_takeHolder (atP C (a + 1))) (sM_comesHolding M (nI s) (nI (3 * s))) := by
  obtain ⟨d, d9, n1, n2, c1, tb, ep⟩ := rh_head H (Or.inr hd)
  obtain ⟨h, hw, hz, hr, h17, hx, hrec, hs, ha, hok⟩ := H
  have h10 := hw.1.b.2
  have t3 : ∀ i, atP C i 3 = C 3 := fun i => atP_t (by omega)
  obtain ⟨r, hf⟩ := zb_ff_ex (fun b => C 3 11 b = ttV X (a + 2)) (nb (C 3))
  have tb := tb r hf
  unfold sS_takeHolder sM_comesHolding
  rw [n1, zb_bs, n2, zb_bs, tb, zb_bs, zb_rd (by omega) (by omega), zb_bs, c1]
  simp only []
  rw [T_bookWithTitle (by rw [t3]; exact hw.1) (r := r) (by rw [t3]; exact hf), zb_bs, T_hasKeeper_x (by rw [t3]; exact hw.1), zb_bs, T_hasBook_x (by rw [t3]; exact hw.1), zb_bs, M_isPlace_x hw.1 hr, zb_bs, t3]
  by_cases h3 : (if nI d = 9 then (1 : Int32) else if noP (C 3) (nI d) then 0 else 1) = 0
  · rw [if_pos h3, if_pos h3]
    exact exA_no hz
  · have hpl : pl (C 3) (nI d) := by
      by_cases e : nI d = 9
      · exact Or.inl e
      · by_cases e2 : noP (C 3) (nI d)
        · rw [if_neg e, if_pos e2] at h3; exact absurd rfl h3
        · exact Or.inr (isP hw.1 e2)
    rw [if_neg h3, if_neg h3]
    cases r with
    | none =>
      rw [if_pos (show noB (C 3) (zb_o none) from Or.inl (by decide)), zb_i00, if_neg (show ¬ (0 : Int32) ≤ zb_o none by decide)]
      exact exA_no hz
    | some b =>
      have hb := hf.1
      rw [if_neg (show ¬ noB (C 3) (zb_o (some b)) from fun z => z.elim (fun z => zb_nd (by omega) z) (fun z => zb_nle hb (by omega) z)), zb_i10, if_pos (show (0 : Int32) ≤ zb_o (some b) from zb_nd2 (by omega)), show zb_o (some b) = nI b from rfl, wa_st (by omega) (by omega), zb_bs, zb_bs, zb_wa (by omega) (by omega), zb_bs, t3, atP_s (by omega)]
      exact exA_yes (ZT_pt hz (Or.inr (Or.inr ⟨by omega, by omega⟩))) (mF.one (by omega)) (by omega) (wf_hold hw hpl) (TR_upJ hr (by omega))
end
