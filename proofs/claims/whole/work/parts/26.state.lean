/-! towns written: one group of the memory set as a whole -/
noncomputable def stT (M : jm_M) (t : Nat) (T : jm_T) : jm_M := fun a => if a = t then T else M a
noncomputable def pt (T : jm_T) (j i : Nat) (v : Int32) : jm_T := fun b k => if b = j ∧ k = i then v else T b k
theorem stT_s {M : jm_M} {t : Nat} {T : jm_T} : stT M t T t = T := by simp [stT]
theorem stT_n {M : jm_M} {t a : Nat} {T : jm_T} (h : ¬ a = t) : stT M t T a = M a := by simp [stT, h]
theorem stT_2 {M : jm_M} {t : Nat} {T T' : jm_T} : stT (stT M t T) t T' = stT M t T' := by
  funext a
  by_cases h : a = t <;> simp [stT, h]
theorem stT_self {M : jm_M} {t : Nat} : stT M t (M t) = M := by
  funext a
  by_cases h : a = t <;> simp [stT, h]
theorem up_st {M : jm_M} {t j i : Nat} {v : Int32} : jm_up M t j i v = stT M t (pt (M t) j i v) := by
  funext a b k
  by_cases h : a = t
  · subst h; simp [jm_up, stT, pt]
  · simp [jm_up, stT, h]
theorem wf_st {M : jm_M} {t k : Nat} {v : Int32} : jm_wf M t k v = some (stT M t (pt (M t) 0 k v)) := by
  unfold jm_wf
  rw [up_st]
theorem wa_st {n k : Nat} {M : jm_M} {t j : Nat} {v : Int32} (h : k < n) (hn : n < 2000) : jm_wa n M t j (nI k) v = some (stT M t (pt (M t) j k v)) := by
  rw [zb_wa h hn, up_st]
theorem pt_s {T : jm_T} {j i : Nat} {v : Int32} : pt T j i v j i = v := by simp [pt]
theorem pt_j {T : jm_T} {j i b : Nat} {v : Int32} (h : ¬ b = j) : pt T j i v b = T b := by
  funext k
  simp [pt, h]
theorem pt_k {T : jm_T} {j i k : Nat} {v : Int32} (h : ¬ k = i) : pt T j i v j k = T j k := by simp [pt, h]
/-- the places that a town has; elsewhere the class's rows hold nothing -/
noncomputable def inr_ (j k : Nat) : Prop := (j = 0 ∧ (k = 0 ∨ k = 4 ∨ k = 11 ∨ k = 12)) ∨ ((j = 2 ∨ j = 3 ∨ j = 4 ∨ j = 14 ∨ j = 15) ∧ k < 6) ∨ ((6 ≤ j ∧ j ≤ 11) ∧ k < 10)
noncomputable def ZT (T : jm_T) : Prop := ∀ j k, ¬ inr_ j k → T j k = 0
theorem ZT_pt {T : jm_T} {j i : Nat} {v : Int32} (h : ZT T) (hi : inr_ j i) : ZT (pt T j i v) := by
  intro b k hb
  unfold pt
  rw [if_neg (fun e => hb (by rw [e.1, e.2]; exact hi))]
  exact h b k hb
theorem T_copyFrom {M : jm_M} {t p : Nat} (hne : ¬ p = t) (hz : ZT (M t)) (hz' : ZT (M p)) : sT_copyFrom M t p = some (stT M t (M p)) := by
  unfold sT_copyFrom jm_wf jm_wc
  simp only [zb_bs]
  congr 1
  funext a b k
  by_cases ha : a = t
  · subst ha
    by_cases hi : inr_ b k
    · simp only [jm_up, jm_cp, stT, hne, false_and, if_false, true_and, if_true]
      rcases hi with ⟨rfl, rfl | rfl | rfl | rfl⟩ | ⟨rfl | rfl | rfl | rfl | rfl, h⟩ | ⟨⟨h1, h2⟩, h⟩
      · simp
      · simp
      · simp
      · simp
      · simp [h]
      · simp [h]
      · simp [h]
      · simp [h]
      · simp [h]
      · rcases (show b = 6 ∨ b = 7 ∨ b = 8 ∨ b = 9 ∨ b = 10 ∨ b = 11 by omega) with rfl | rfl | rfl | rfl | rfl | rfl <;> simp [h]
    · simp only [jm_up, jm_cp, stT, hne, false_and, if_false, true_and, if_true]
      rw [hz' b k hi]
      unfold inr_ at hi
      have e := hz b k hi
      repeat' rw [if_neg (by omega)]
      exact e
  · simp [jm_up, jm_cp, stT, ha]
/-! a week -/
noncomputable def lessT (T : jm_T) (b : Nat) (o : Option Nat) : Bool := match o with
  | none => true
  | some c => !decide (T 11 c ≤ T 11 b)
noncomputable def nxF (T : jm_T) (p b : Nat) (o : Option Nat) : Option Nat := if T 9 b = nI p ∧ ts_rd T p b = 0 ∧ lessT T b o = true then some b else o
noncomputable def nx (T : jm_T) (p n : Nat) : Option Nat := zf (nxF T p) n none
noncomputable def rdB (T : jm_T) (p b : Nat) : jm_T := pt (pt T 10 b (T 10 b ||| (1 <<< (nI p &&& 31)))) 9 b (T 8 b)
noncomputable def rdN (p : Nat) (T : jm_T) : jm_T := match nx T p (nb T) with
  | none => T
  | some b => rdB T p b
noncomputable def eaN (p : Nat) (T : jm_T) : jm_T := if ¬ (T 3 p + 2 ≤ 0) ∧ T 0 11 - T 0 11 / (T 3 p + 2) * (T 3 p + 2) = 0 then pt T 2 p (jm_min 99 (T 2 p + 1)) else T
noncomputable def goP (r : Bool) (p : Nat) (T : jm_T) : jm_T := if r = true then rdN p (eaN p T) else eaN p T
noncomputable def wkT (T : jm_T) : jm_T := pt T 0 11 (T 0 11 + 1)
noncomputable def wkS (r : Bool) (T : jm_T) : jm_T := zf (goP r) (np T) (wkT T)
noncomputable def wkN (n : Nat) (T : jm_T) : jm_T := zf (fun _ => wkS true) n T
theorem nx_lt (T : jm_T) (p n c : Nat) (h : nx T p n = some c) : c < n := by
  have key : ∀ n c, nx T p n = some c → c < n := by
    intro n
    induction n with
    | zero => intro c h; cases h
    | succ n ih =>
      intro c h
      unfold nx at h
      rw [zf] at h
      unfold nxF at h
      split at h
      · cases h; omega
      · have := ih c h; omega
  exact key n c h
theorem zb_om9 {o : Option Nat} (h : ∀ c, o = some c → c < 1000) : (zb_o o = -9) = (o = none) := by
  cases o with
  | none => simp [zb_o]
  | some c =>
    have := h c rfl
    simp only [zb_o, reduceCtorEq, eq_iff_iff, iff_false]
    exact zb_m9 (by omega)
theorem T_readNext {M : jm_M} {t p : Nat} (hc : ctT (M t)) : sT_readNext M t (nI p) = some (stT M t (rdN p (M t))) := by
  have h := hc.b
  unfold sT_readNext
  refine zb_forB (fun k => (zb_o (nx (M t) p k), nI k)) (zb_o (nx (M t) p (nb (M t)))) (nb (M t)) rfl ?_ ?_ (by omega) ?_
  · intro k hk
    unfold sT_readNext_L5
    rw [h.1, if_neg (zb_nle hk (by omega))]
    simp only [zb_rd (show k < 10 by omega) (show 10 < 2000 by omega), zb_bs, T_hasRead (show k < 10 by omega), nI_1]
    have e : nx (M t) p (k + 1) = nxF (M t) p k (nx (M t) p k) := rfl
    have hl := nx_lt (M t) p k
    rw [e]
    generalize nx (M t) p k = o at hl ⊢
    unfold nxF
    by_cases h1 : M t 9 k = nI p
    · by_cases h2 : ts_rd (M t) p k = 0
      · cases o with
        | none => simp [h1, h2, lessT, zb_o]
        | some c =>
          have hck := hl c rfl
          simp only [h1, h2, zb_o, if_true, true_and, zb_m9 (show c < 1000000 by omega), if_false, zb_rd (show c < 10 by omega) (show 10 < 2000 by omega), zb_bs, lessT]
          by_cases h3 : M t 11 c ≤ M t 11 k <;> simp [h3, zb_o]
      · simp [h1, h2]
    · simp [h1]
  · unfold sT_readNext_L5
    rw [h.1, if_pos (zb_yle (Nat.le_refl _) (by omega))]
  · have hl := nx_lt (M t) p (nb (M t))
    unfold rdN
    generalize nx (M t) p (nb (M t)) = o at hl ⊢
    cases o with
    | none => simp [zb_o, stT_self]
    | some b =>
      have hb := hl b rfl
      rw [show zb_o (some b) = nI b from rfl, if_neg (zb_m9 (by omega)), zb_rd (by omega) (by omega), zb_bs, wa_st (by omega) (by omega), zb_bs, stT_s, pt_j (by omega), zb_rd (by omega) (by omega), zb_bs, wa_st (by omega) (by omega), zb_bs, stT_s, stT_2]
      rfl
theorem eaN_0 (p : Nat) (T : jm_T) (j : Nat) (hj : ¬ j = 2) : eaN p T j = T j := by
  unfold eaN
  split
  · exact pt_j hj
  · rfl
theorem rdN_j (p : Nat) (T : jm_T) (j : Nat) (hj : ¬ j = 9 ∧ ¬ j = 10) : rdN p T j = T j := by
  unfold rdN rdB
  generalize nx T p (nb T) = o
  cases o with
  | none => rfl
  | some b => simp only []; rw [pt_j hj.1, pt_j hj.2]
theorem goP_j (r : Bool) (p : Nat) (T : jm_T) (j : Nat) (hj : ¬ j = 2 ∧ ¬ j = 9 ∧ ¬ j = 10) : goP r p T j = T j := by
  unfold goP
  split
  · rw [rdN_j _ _ _ hj.2, eaN_0 _ _ _ hj.1]
  · rw [eaN_0 _ _ _ hj.1]
theorem goPs_j (r : Bool) (n : Nat) (T : jm_T) (j : Nat) (hj : ¬ j = 2 ∧ ¬ j = 9 ∧ ¬ j = 10) : zf (goP r) n T j = T j := by
  induction n with
  | zero => rfl
  | succ n ih => rw [zf, goP_j _ _ _ _ hj, ih]
theorem ct_j {T T' : jm_T} (h : ctT T) (h0 : T' 0 0 = T 0 0) (h4 : T' 0 4 = T 0 4) (h12 : T' 0 12 = T 0 12) : ctT T' := by
  unfold ctT
  rw [h0, h4, h12]
  exact h
theorem T_weekPasses {M : jm_M} {t : Nat} {x : Int32} (hc : ctT (M t)) (r : Bool) (hx : (x = 0) = (r = false)) : sT_weekPasses M t x = some (stT M t (wkS r (M t))) := by
  unfold sT_weekPasses
  rw [wf_st, zb_bs]
  have hp := hc.p
  have c0 : ∀ k, zf (goP r) k (wkT (M t)) 0 = pt (M t) 0 11 (M t 0 11 + 1) 0 := fun k => goPs_j r k (wkT (M t)) 0 (by omega)
  have ck : ∀ k, ctT (zf (goP r) k (wkT (M t))) := fun k => ct_j hc (by rw [c0, pt_k (by omega)]) (by rw [c0, pt_k (by omega)]) (by rw [c0, pt_k (by omega)])
  refine zb_forB (fun k => (nI k, stT M t (zf (goP r) k (wkT (M t))))) (stT M t (wkS r (M t))) (np (M t)) rfl ?_ ?_ (by omega) rfl
  · intro k hk
    unfold sT_weekPasses_L12
    have ec : (zf (goP r) k (wkT (M t))) 0 0 = nI (np (M t)) := by rw [c0, pt_k (by omega), hp.1]
    have hck := ck k
    generalize hT : zf (goP r) k (wkT (M t)) = Tk at ec hck
    have e1 : zf (goP r) (k + 1) (wkT (M t)) = goP r k Tk := by rw [zf, hT]
    simp only [e1]
    rw [stT_s, ec, if_neg (zb_nle hk (by omega)), zb_rd (by omega) (by omega)]
    simp only [zb_bs, nI_1, zb_rd (show k < 6 by omega) (show 6 < 2000 by omega)]
    have e2 : (if Tk 3 k + 2 ≤ 0 then some (stT M t Tk) else (jm_rm (Tk 0 11) (Tk 3 k + 2)).bind fun v8 => if v8 = 0 then (jm_wa 6 (stT M t Tk) t 2 (nI k) (jm_min 99 (Tk 2 k + 1))).bind fun M11 => some M11 else some (stT M t Tk)) = some (stT M t (eaN k Tk)) := by
      unfold eaN jm_rm
      by_cases h1 : Tk 3 k + 2 ≤ 0
      · simp [h1]
      · have h0 : ¬ Tk 3 k + 2 = 0 := fun e => h1 (by rw [e]; decide)
        rw [if_neg h1, if_neg h0, zb_bs]
        by_cases h2 : Tk 0 11 - Tk 0 11 / (Tk 3 k + 2) * (Tk 3 k + 2) = 0
        · rw [if_pos h2, if_pos ⟨h1, h2⟩, wa_st (by omega) (by omega), zb_bs, stT_s, stT_2]
        · rw [if_neg h2, if_neg (fun e => h2 e.2)]
    rw [e2, zb_bs]
    unfold goP
    cases r with
    | false =>
      rw [if_pos (by rw [hx])]
      simp
    | true =>
      rw [if_neg (by rw [hx]; simp)]
      have ce : ctT ((stT M t (eaN k Tk)) t) := by
        rw [stT_s]
        exact ct_j hck (by rw [eaN_0 _ _ _ (by omega)]) (by rw [eaN_0 _ _ _ (by omega)]) (by rw [eaN_0 _ _ _ (by omega)])
      rw [T_readNext ce, zb_bs, stT_s, stT_2]
      simp
  · unfold sT_weekPasses_L12
    simp only []
    rw [stT_s, c0, pt_k (by omega), hp.1, if_pos (zb_yle (Nat.le_refl _) (by omega))]
    rfl
theorem wkS_0 (r : Bool) (T : jm_T) : wkS r T 0 = pt T 0 11 (T 0 11 + 1) 0 := goPs_j r (np T) (wkT T) 0 (by omega)
theorem wkS_ct {T : jm_T} (r : Bool) (h : ctT T) : ctT (wkS r T) := ct_j h (by rw [wkS_0, pt_k (by omega)]) (by rw [wkS_0, pt_k (by omega)]) (by rw [wkS_0, pt_k (by omega)])
theorem wkN_ct {T : jm_T} (n : Nat) (h : ctT T) : ctT (wkN n T) := by
  induction n with
  | zero => exact h
  | succ n ih => exact wkS_ct true ih
theorem T_weeksPass {M : jm_M} {t n : Nat} (hc : ctT (M t)) (hn : n < 1000000) : sT_weeksPass M t (nI n) = some (stT M t (wkN n (M t))) := by
  unfold sT_weeksPass
  refine zb_forB (fun k => (nI k, stT M t (wkN k (M t)))) _ n ?_ ?_ ?_ hn rfl
  · show (nI 0, stT M t (M t)) = _
    rw [stT_self]
    rfl
  · intro k hk
    unfold sT_weeksPass_L2
    simp only []
    rw [if_neg (zb_nle hk (by omega)), T_weekPasses (by rw [stT_s]; exact wkN_ct k hc) true (by simp), zb_bs, stT_s, stT_2, nI_1]
    rfl
  · unfold sT_weeksPass_L2
    rw [if_pos (zb_yle (Nat.le_refl _) (by omega))]
