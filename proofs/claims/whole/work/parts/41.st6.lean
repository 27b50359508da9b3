/-! by heart, shelves, sights -/
theorem zb_distA (a b x : Int32) : (a ||| x) &&& (b ||| x) = (a &&& b) ||| x := by
  rw [← Int32.toBitVec_inj]
  simp only [Int32.toBitVec_and, Int32.toBitVec_or]
  ext i hi
  simp only [BitVec.getElem_and, BitVec.getElem_or]
  cases a.toBitVec[i] <;> cases b.toBitVec[i] <;> cases x.toBitVec[i] <;> rfl
theorem zb_distB (a b x : Int32) (h : b &&& x = 0) : (a ||| x) &&& b = a &&& b := by
  rw [← Int32.toBitVec_inj] at h ⊢
  simp only [Int32.toBitVec_and, Int32.toBitVec_or] at h ⊢
  ext i hi
  have h2 : (b.toBitVec &&& x.toBitVec)[i] = (0 : Int32).toBitVec[i] := by simp only [h]
  have h3 : (0 : Int32).toBitVec[i] = false := by show (0#32)[i] = false; simp
  rw [h3] at h2
  simp only [BitVec.getElem_and, BitVec.getElem_or] at h2 ⊢
  cases a.toBitVec[i] <;> cases h4 : b.toBitVec[i] <;> cases h5 : x.toBitVec[i] <;> simp_all
theorem zb_andc (a b : Int32) : a &&& b = b &&& a := by
  rw [← Int32.toBitVec_inj]
  simp only [Int32.toBitVec_and]
  exact BitVec.and_comm _ _
theorem zb_set2 {F G : Nat → Int32} (n : Nat) (hn : n ≤ 10) (hF : ∀ k, k < n → F k = 0 ∨ F k = 1) (hG : ∀ k, k < n → G k = 0 ∨ G k = 1) : zf (fun k v => v ||| (F k <<< (nI k &&& 31))) n 0 &&& zf (fun k v => v ||| (G k <<< (nI k &&& 31))) n 0 = zf (fun k v => if F k = 1 ∧ G k = 1 then v ||| ((1 : Int32) <<< (nI k &&& 31)) else v) n 0 := by
  induction n with
  | zero => exact (show (0 : Int32) &&& 0 = 0 by decide)
  | succ n ih =>
    have i := ih (by omega) (fun k hk => hF k (by omega)) (fun k hk => hG k (by omega))
    obtain ⟨s, h1, h2, h3⟩ := zb_set n (by omega) (fun k hk => hF k (by omega))
    obtain ⟨r, r1, r2, r3⟩ := zb_set n (by omega) (fun k hk => hG k (by omega))
    obtain ⟨-, -, g3⟩ := zb_bitn n (by omega) s h1
    obtain ⟨-, -, q3⟩ := zb_bitn n (by omega) r r1
    rw [zf, zf, zf, ← i, h2, r2]
    rcases hF n (by omega) with q | q <;> rcases hG n (by omega) with z | z
    · rw [q, z, zb_bit0 n (by omega), Int32.or_zero, Int32.or_zero, if_neg (by simp)]
    · rw [q, z, zb_bit0 n (by omega), Int32.or_zero, if_neg (by simp), zb_andc, zb_distB _ _ _ g3, zb_andc]
    · rw [q, z, zb_bit0 n (by omega), Int32.or_zero, if_neg (by simp), zb_distB _ _ _ q3]
    · rw [q, z, if_pos ⟨rfl, rfl⟩, zb_distA]
/-! most held -/
noncomputable def ts_moC (T : jm_T) (x v : Int32) : Int32 := if 0 ≤ v then ts_manyOn T x v else 0
noncomputable def ts_mo (T : jm_T) (x : Int32) (n : Nat) : Int32 := zf (fun k v => if ts_manyOn T x (nI k) ≤ ts_moC T x v then v else nI k) n (-9)
theorem T_mostHeldKind {C : jm_M} {t : Nat} (hc : ctT (C t)) (x : Int32) : sT_mostHeldKind C t x = some (ts_mo (C t) x 8) := by
  have h := hc.b
  unfold sT_mostHeldKind
  refine zb_forB (fun k => (ts_moC (C t) x (ts_mo (C t) x k), ts_mo (C t) x k, nI k)) (ts_mo (C t) x 8) 8 ?_ ?_ ?_ (by omega) rfl
  · show ((if (0 : Int32) ≤ -9 then _ else 0), (-9 : Int32), (0 : Int32)) = _
    rw [if_neg (by decide)]
  · intro k hk
    have e : ts_mo (C t) x (k + 1) = if ts_manyOn (C t) x (nI k) ≤ ts_moC (C t) x (ts_mo (C t) x k) then ts_mo (C t) x k else nI k := rfl
    unfold sT_mostHeldKind_L8
    rw [e]
    generalize ts_mo (C t) x k = v
    rw [if_neg (show ¬ (8 : Int32) ≤ nI k from zb_nle (a := 8) (by omega) (by omega))]
    refine zb_forB (fun j => (zf (fun j v => if (C t) 9 j = x ∧ (C t) 6 j = nI k then v + 1 else v) j 0, nI j)) (ts_manyOn (C t) x (nI k)) (nb (C t)) rfl ?_ ?_ (by omega) ?_
    · intro j hj
      unfold sT_mostHeldKind_L21
      rw [h.1, if_neg (zb_nle hj (by omega))]
      simp only [zb_rd (show j < 10 by omega) (show 10 < 2000 by omega), zb_bs, nI_1, zf]
      by_cases q1 : C t 9 j = x
      · by_cases q2 : C t 6 j = nI k <;> simp [q1, q2]
      · simp [q1]
    · unfold sT_mostHeldKind_L21
      rw [h.1, if_pos (zb_yle (Nat.le_refl _) (by omega))]
      rfl
    · simp only [nI_1]
      by_cases q : ts_manyOn (C t) x (nI k) ≤ ts_moC (C t) x v
      · simp only [if_pos q]
      · simp only [if_neg q]
        unfold ts_moC
        rw [if_pos (zb_nd2 (by omega))]
  · unfold sT_mostHeldKind_L8
    rw [if_pos (show (8 : Int32) ≤ nI 8 from zb_yle (Nat.le_refl 8) (by omega))]
theorem M_mostOn {T : jm_T} {M : jm_M} {w : Nat} (hw : wfT w T) (hw2 : w < 900000) (hr : TR T (M 0)) (x : Int32) : sM_mostOn M x = some (ts_mo T x 8) := by
  unfold sM_mostOn
  refine zb_forB (fun k => (ts_mo T x k, nI k)) (ts_mo T x 8) 8 rfl ?_ ?_ (by omega) rfl
  · intro k hk
    have e : ts_mo T x (k + 1) = if ts_manyOn T x (nI k) ≤ ts_moC T x (ts_mo T x k) then ts_mo T x k else nI k := rfl
    unfold sM_mostOn_L5
    rw [e]
    generalize ts_mo T x k = v
    rw [if_neg (show ¬ (8 : Int32) ≤ nI k from zb_nle (a := 8) (by omega) (by omega)), M_manyOn hw hw2 hr, M_manyOn hw hw2 hr]
    simp only [nI_1, zb_bs]
    unfold ts_moC
    by_cases q0 : 0 ≤ v
    · simp only [if_pos q0, zb_bs]
      by_cases q : ts_manyOn T x (nI k) ≤ ts_manyOn T x v
      · simp only [if_pos q]
      · simp only [if_neg q]
    · simp only [if_neg q0, zb_bs]
      by_cases q : ts_manyOn T x (nI k) ≤ 0
      · simp only [if_pos q]
      · simp only [if_neg q]
  · unfold sM_mostOn_L5
    rw [if_pos (show (8 : Int32) ≤ nI 8 from zb_yle (Nat.le_refl 8) (by omega))]
/-! the poor -/
noncomputable def ts_lp (T : jm_T) (n : Nat) : Int32 := zf (fun k v => if T 8 k = 9 then (if v < 0 then ts_price T k else if v ≤ ts_price T k then v else ts_price T k) else v) n (-9)
theorem ts_lp_in {w : Nat} {T : jm_T} (hw : wfT w T) : ∀ n, n ≤ nb T → ts_lp T n = -9 ∨ ∃ k, k < 900000 ∧ ts_lp T n = nI k := by
  intro n
  induction n with
  | zero => intro _; exact Or.inl rfl
  | succ n ih =>
    intro hn
    obtain ⟨c, c1, c2⟩ := ts_price_in hw (show n < nb T by omega)
    have i := ih (by omega)
    have e : ts_lp T (n + 1) = if T 8 n = 9 then (if ts_lp T n < 0 then ts_price T n else if ts_lp T n ≤ ts_price T n then ts_lp T n else ts_price T n) else ts_lp T n := rfl
    rw [e]
    split
    · split
      · exact Or.inr ⟨c, by omega, c2⟩
      · split
        · exact i
        · exact Or.inr ⟨c, by omega, c2⟩
    · exact i
theorem T_leastTownPrice {C : jm_M} {t w : Nat} (hw : wfT w (C t)) : sT_leastTownPrice C t = some (if ts_lp (C t) (nb (C t)) < 0 then 0 else ts_lp (C t) (nb (C t))) := by
  have h := hw.1.b
  unfold sT_leastTownPrice
  refine zb_forB (fun k => (if ts_lp (C t) k < 0 then 0 else ts_lp (C t) k, if ts_lp (C t) k < 0 then 0 else 1, nI k)) _ (nb (C t)) rfl ?_ ?_ (by omega) rfl
  · intro k hk
    have e : ts_lp (C t) (k + 1) = if (C t) 8 k = 9 then (if ts_lp (C t) k < 0 then ts_price (C t) k else if ts_lp (C t) k ≤ ts_price (C t) k then ts_lp (C t) k else ts_price (C t) k) else ts_lp (C t) k := rfl
    unfold sT_leastTownPrice_L6
    rw [e]
    obtain ⟨c, c1, c2⟩ := ts_price_in hw hk
    have c3 : ¬ ts_price (C t) k < 0 := by rw [c2]; exact zb_nd (by omega)
    generalize ts_lp (C t) k = v
    rw [h.1, if_neg (zb_nle hk (by omega)), zb_rd (by omega) (by omega), zb_bs, T_priceOf (by omega)]
    simp only [nI_1, zb_bs]
    by_cases q : C t 8 k = 9
    · by_cases q2 : v < 0
      · simp only [if_pos q, if_pos q2, if_neg c3]
        rfl
      · by_cases q3 : v ≤ ts_price (C t) k
        · simp only [if_pos q, if_neg q2, if_pos q3]
          rw [zb_i10]
        · simp only [if_pos q, if_neg q2, if_neg q3, if_neg c3]
          rw [zb_i10]
    · simp only [if_neg q]
  · unfold sT_leastTownPrice_L6
    rw [h.1, if_pos (zb_yle (Nat.le_refl _) (by omega))]
noncomputable def ts_pr (T : jm_T) (v : Int32) : Int32 := zf (fun p n => if v ≤ T 4 p then n else n + 1) (np T) 0
theorem T_poorPeople {C : jm_M} {t w : Nat} (hw : wfT w (C t)) : sT_poorPeople C t = some (ts_pr (C t) (ts_lp (C t) (nb (C t)))) := by
  have h := hw.1.p
  unfold sT_poorPeople ts_pr
  rw [T_leastTownPrice hw, zb_bs]
  have hi := ts_lp_in hw _ (Nat.le_refl _)
  generalize ts_lp (C t) (nb (C t)) = v at hi
  refine zb_forB (fun k => (zf (fun p n => if v ≤ (C t) 4 p then n else n + 1) k 0, nI k)) _ (np (C t)) rfl ?_ ?_ (by omega) rfl
  · intro k hk
    unfold sT_poorPeople_L9
    obtain ⟨c, c1, c2⟩ := (hw.2.2.1 k hk).2.2
    rw [h.1, if_neg (zb_nle hk (by omega)), zb_rd (by omega) (by omega), zb_bs]
    simp only [nI_1, zf]
    have e : ((if v < 0 then 0 else v) ≤ C t 4 k) = (v ≤ C t 4 k) := by
      rw [c2]
      rcases hi with rfl | ⟨a, a1, rfl⟩
      · rw [if_pos (by decide)]
        have z := zb_nd2 (n := c) (by omega)
        refine propext ⟨fun _ => ?_, fun _ => z⟩
        rw [Int32.le_iff_toInt_le] at z ⊢
        have e9 : (-9 : Int32).toInt = -9 := by decide
        have e0 : (0 : Int32).toInt = 0 := rfl
        omega
      · rw [if_neg (zb_nd (by omega))]
    by_cases q : v ≤ C t 4 k
    · rw [if_pos (by rw [e]; exact q), if_pos q]
    · rw [if_neg (by rw [e]; exact q), if_neg q]
  · unfold sT_poorPeople_L9
    rw [h.1, if_pos (zb_yle (Nat.le_refl _) (by omega))]
theorem M_poor {T : jm_T} {M : jm_M} {w : Nat} (hw : wfT w T) (hw2 : w < 900000) (hr : TR T (M 0)) : sM_poor M = some (ts_pr T (ts_lp T (nb T))) := by
  have h := hw.1.b
  have h6 := hw.1.p
  unfold sM_poor
  refine zb_forB (fun k => (ts_lp T k, nI k)) (ts_lp T (nb T)) (nb T) rfl ?_ ?_ (by omega) ?_
  · intro k hk
    have e : ts_lp T (k + 1) = if T 8 k = 9 then (if ts_lp T k < 0 then ts_price T k else if ts_lp T k ≤ ts_price T k then ts_lp T k else ts_price T k) else ts_lp T k := rfl
    obtain ⟨g5, g6, g7, g8, g9, -⟩ := hr.2.2.1 k hk
    unfold sM_poor_L5
    rw [e]
    generalize ts_lp T k = v
    rw [hr.1.2.1, h.1, if_neg (zb_nle hk (by omega)), zb_rd (by omega) (by omega), zb_bs, M_price hw hr hk, g7]
    simp only [nI_1, zb_bs]
    by_cases q : T 8 k = 9
    · by_cases q2 : v < 0
      · simp only [if_pos q, if_pos q2]
      · by_cases q3 : v ≤ ts_price T k
        · simp only [if_pos q, if_neg q2, if_pos q3]
        · simp only [if_pos q, if_neg q2, if_neg q3]
    · simp only [if_neg q]
  · unfold sM_poor_L5
    rw [hr.1.2.1, h.1, if_pos (zb_yle (Nat.le_refl _) (by omega))]
  · unfold ts_pr
    generalize ts_lp T (nb T) = v
    refine zb_forB (fun k => (zf (fun p n => if v ≤ T 4 p then n else n + 1) k 0, nI k)) _ (np T) rfl ?_ ?_ (by omega) rfl
    · intro k hk
      obtain ⟨g2, g3, g4⟩ := hr.2.1 k hk
      unfold sM_poor_L57
      rw [hr.1.1, h6.1, if_neg (zb_nle hk (by omega)), zb_rd (by omega) (by omega), zb_bs, g4]
      simp only [nI_1, zf, zb_bs, Int32.add_zero]
      by_cases q : v ≤ T 4 k
      · simp only [if_pos q]
      · simp only [if_neg q]
    · unfold sM_poor_L57
      rw [hr.1.1, h6.1, if_pos (zb_yle (Nat.le_refl _) (by omega))]
section
variable {C M : jm_M}
theorem st_byHeart (h : Inv C M) (x y : Int32) : SC (sW_byHeart C x y) (sM_byHeart M x y) := by
  obtain ⟨hw, hr, hd⟩ := h.now
  have h10 := hw.1.b
  unfold sW_byHeart sM_byHeart
  rw [W_areTwo hw.1, M_areTwo hw.1 hr]
  simp only [zb_bs]
  by_cases h2 : ar2 (C 1) x y
  · obtain ⟨p, q, hp, hq, hn, rfl, rfl⟩ := is2 hw.1 h2
    rw [if_pos h2, zb_i10, zb_i10, T_booksReadBy hw.1, T_booksReadBy hw.1]
    simp only [zb_bs]
    refine ⟨_, C, M, rfl, ?_, h⟩
    unfold ts_readBy
    rw [zb_set2 (F := ts_rd (C 1) p) (G := ts_rd (C 1) q) (nb (C 1)) h10.2 (fun k hk => ts_rd01 hw hp hk) (fun k hk => ts_rd01 hw hq hk)]
    refine zb_forB (fun k => (zf (fun k v => if ts_rd (C 1) p k = 1 ∧ ts_rd (C 1) q k = 1 then v ||| ((1 : Int32) <<< (nI k &&& 31)) else v) k 0, nI k)) _ (nb (C 1)) rfl ?_ ?_ (by omega) rfl
    · intro k hk
      obtain ⟨g5, g6, g7, g8, g9, -⟩ := hr.2.2.1 k hk
      unfold sM_byHeart_L20
      rw [hr.1.2.1, h10.1, if_neg (zb_nle hk (by omega)), zb_rd (by omega) (by omega), g9]
      simp only [zb_bs, M_has, nI_1, zf, Int32.or_zero]
      show (if (if ts_rd (C 1) p k = 1 then (1 : Int32) else 0) = 0 then _ else _) = _
      by_cases q1 : ts_rd (C 1) p k = 1
      · rw [if_pos q1, zb_i10]
        show (if (if ts_rd (C 1) q k = 1 then (1 : Int32) else 0) = 0 then _ else _) = _
        by_cases q2 : ts_rd (C 1) q k = 1
        · rw [if_pos q2, zb_i10, if_pos ⟨q1, q2⟩]
        · rw [if_neg q2, zb_i00, if_neg (fun e => q2 e.2)]
      · rw [if_neg q1, zb_i00, if_neg (fun e => q1 e.1)]
    · unfold sM_byHeart_L20
      rw [hr.1.2.1, h10.1, if_pos (zb_yle (Nat.le_refl _) (by omega))]
  · rw [if_neg h2, zb_i00, zb_i00, W_refuse C (k := 1) rfl (by omega), M_no M (k := 1) rfl (by omega)]
    simp only [zb_bs]
    exact SC.mk (Inv_ref h (by omega))
theorem st_sight (h : Inv C M) (x : Int32) : SC (sW_sight C x) (sM_sight M x) := by
  obtain ⟨hw, hr, hd⟩ := h.now
  unfold sW_sight sM_sight
  by_cases y0 : x = 0
  · rw [if_pos y0, if_pos y0, T_closestTwo hw.1, M_closest hw (by omega) hr]
    exact SC.mk h
  rw [if_neg y0, if_neg y0]
  by_cases y0 : x = 1
  · rw [if_pos y0, if_pos y0, T_poorPeople hw, M_poor hw (by omega) hr]
    exact SC.mk h
  rw [if_neg y0, if_neg y0]
  by_cases y0 : x = 2
  · rw [if_pos y0, if_pos y0, T_unreadBooks hw.1, M_unread hw (by omega) hr]
    exact SC.mk h
  rw [if_neg y0, if_neg y0]
  by_cases y0 : x = 3
  · rw [if_pos y0, if_pos y0, T_lentBooks hw.1, M_lent hw (by omega) hr]
    exact SC.mk h
  rw [if_neg y0, if_neg y0, W_refuse C (k := 2) rfl (by omega), M_no M (k := 2) rfl (by omega)]
  simp only [zb_bs]
  exact SC.mk (Inv_ref h (by omega))
theorem st_shelf (h : Inv C M) (x y : Int32) : SC (sW_shelf C x y) (sM_shelf M x y) := by
  obtain ⟨hw, hr, hd⟩ := h.now
  unfold sW_shelf sM_shelf
  rw [T_hasKeeper_x hw.1, M_isPlace_x hw.1 hr]
  simp only [zb_bs]
  by_cases h2 : (if x = 9 then (1 : Int32) else if noP (C 1) x then 0 else 1) = 0
  · rw [if_pos h2, if_pos h2, W_refuse C (k := 1) rfl (by omega), M_no M (k := 1) rfl (by omega)]
    simp only [zb_bs]
    exact SC.mk (Inv_ref h (by omega))
  · rw [if_neg h2, if_neg h2]
    by_cases y0 : y = 0
    · rw [if_pos y0, if_pos y0, T_booksWith hw.1 (by omega), M_manyIn hw.1 hr (jT := 9) (by omega)]
      exact SC.mk h
    rw [if_neg y0, if_neg y0]
    by_cases y0 : y = 1
    · rw [if_pos y0, if_pos y0, T_kindsHeldBy hw.1, M_kindsOn hw (by omega) hr]
      exact SC.mk h
    rw [if_neg y0, if_neg y0]
    by_cases y0 : y = 2
    · rw [if_pos y0, if_pos y0, T_pricesHeldBy hw.1, M_pricesOn hw (by omega) hr]
      exact SC.mk h
    rw [if_neg y0, if_neg y0]
    by_cases y0 : y = 3
    · rw [if_pos y0, if_pos y0, T_mostHeldKind hw.1, M_mostOn hw (by omega) hr]
      exact SC.mk h
    rw [if_neg y0, if_neg y0, W_refuse C (k := 2) rfl (by omega), M_no M (k := 2) rfl (by omega)]
    simp only [zb_bs]
    exact SC.mk (Inv_ref h (by omega))
end
