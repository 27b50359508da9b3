/-! the two, held against one another -/
def Inv (C M : jm_M) : Prop :=
  (wfT 999 (C 1) ∧ TR (C 1) (M 0) ∧ M 0 0 17 = 0) ∧
  ((C 0 0 3 = 0 ∧ M 0 0 32 = 0) ∨ (C 0 0 3 = 1 ∧ M 0 0 32 = 1 ∧ wfT 999 (C 2) ∧ TR (C 2) (dec (M 0 32) 0))) ∧
  (∃ m L f, m ≤ 8 ∧ L < 8 ∧ f < 8 ∧ C 13 0 2 = nI m ∧ C 13 0 1 = nI L ∧ M 0 0 36 = nI m ∧ M 0 0 35 = nI f ∧ ∀ i, i < m → wfT 999 (C (5 + (L + 8 - i) % 8)) ∧ TR (C (5 + (L + 8 - i) % 8)) (dec (M 0 32) (135 * (3 + (f + m + 7 - i) % 8)))) ∧
  (∃ l, l ≤ 96 ∧ C 14 0 1 = nI l ∧ M 0 0 26 = nI l ∧ ∀ i, i < l → C 14 1 i = M 0 19 i ∧ zb_in (C 14 1 i) 255) ∧
  (∃ r, r ≤ 12 ∧ C 0 0 10 = nI r ∧ M 0 0 41 = nI r ∧ ∀ i, i < r → C 0 10 i = M 0 41 i) ∧
  (∀ i, i < 7 → C 0 12 i = M 0 1 i) ∧
  (∀ t, 1 ≤ t → t ≤ 12 → ZT (C t)) ∧ C 17 2 0 = 0
/-- the class's memory, but for what it uses to think -/
def sameC (C C' : jm_M) : Prop := (∀ t, 1 ≤ t → t ≤ 13 → ¬ t = 3 → ¬ t = 4 → C' t = C t) ∧ C' 14 0 1 = C 14 0 1 ∧ C' 14 1 = C 14 1 ∧ (∀ k, C' 0 0 k = C 0 0 k) ∧ C' 0 10 = C 0 10 ∧ C' 0 12 = C 0 12 ∧ ZT (C' 3) ∧ ZT (C' 4) ∧ C' 17 2 0 = C 17 2 0
theorem TR_dec {T : jm_T} {h h' : Nat → Int32} {c : Nat} (hr : TR T (dec h c)) (hc : ctT T) (he : ∀ i, c ≤ i → i < c + 134 → h' i = h i) : TR T (dec h' c) := by
  refine TR_core hr hc (fun j i hj => ?_)
  unfold dec
  rcases hj with ⟨rfl, h1, h2⟩ | ⟨h1, h2, h3⟩
  · rw [if_pos rfl, if_pos rfl, he _ (by omega) (by omega)]
  · have := ofs_lt h1 h2
    rw [if_neg (by omega), if_neg (by omega), he _ (by omega) (by omega)]
theorem Inv.now {C M : jm_M} (h : Inv C M) : wfT 999 (C 1) ∧ TR (C 1) (M 0) ∧ M 0 0 17 = 0 := h.1
theorem Inv.zt {C M : jm_M} (h : Inv C M) {t : Nat} (h1 : 1 ≤ t) (h2 : t ≤ 12) : ZT (C t) := h.2.2.2.2.2.2.1 t h1 h2
/-- thinking changes nothing of it -/
theorem Inv_same {C C' M M' : jm_M} (h : Inv C M) (hC : sameC C C') (hM : sameM M M') : Inv C' M' := by
  obtain ⟨⟨i1, i2, i3⟩, im, ⟨m, L, f, p1, p2, p3, p4, p5, p6, p7, p8⟩, ⟨l, l1, l2, l3, l4⟩, ⟨r, r1, r2, r3, r4⟩, rf, zt, z17⟩ := h
  obtain ⟨c1, c2, c3, c4, c5, c6, c7, c8, c9⟩ := hC
  have f0 : ∀ s, ¬ s ∈ [13, 14, 15, 16, 17, 33, 34, 43] → M' 0 0 s = M 0 0 s := fun s hs => hM.2.2.1 0 0 s (fun e => by
    obtain ⟨-, e | e⟩ := e
    · simp at e
    · exact hs e.2)
  have kp : ∀ c, (c ≤ 135 ∨ 404 ≤ c) → ∀ i, c ≤ i → i < c + 134 → M' 0 32 i = M 0 32 i := fun c hc i h1 h2 => hM.2.1 i (by omega)
  have cl : ∀ j, j = 1 ∨ j = 19 ∨ j = 41 → ∀ k, M' 0 j k = M 0 j k := fun j hj k => hM.2.2.1 0 j k (fun e => by
    obtain ⟨-, e | e⟩ := e
    · simp at e; omega
    · omega)
  refine ⟨⟨?_, ?_, hM.2.2.2⟩, ?_, ?_, ?_, ?_, ?_, ?_, by rw [c9]; exact z17⟩
  · rw [c1 1 (by omega) (by omega) (by omega) (by omega)]; exact i1
  · rw [c1 1 (by omega) (by omega) (by omega) (by omega)]; exact TR_same i2 i1.1 hM
  · rw [c4, f0 32 (by decide)]
    rcases im with im | ⟨a1, a2, a3, a4⟩
    · exact Or.inl im
    · rw [c1 2 (by omega) (by omega) (by omega) (by omega)]
      exact Or.inr ⟨a1, a2, a3, TR_dec a4 a3.1 (kp 0 (by omega))⟩
  · refine ⟨m, L, f, p1, p2, p3, ?_, ?_, ?_, ?_, ?_⟩
    · rw [c1 13 (by omega) (by omega) (by omega) (by omega)]; exact p4
    · rw [c1 13 (by omega) (by omega) (by omega) (by omega)]; exact p5
    · rw [f0 36 (by decide)]; exact p6
    · rw [f0 35 (by decide)]; exact p7
    · intro i hi
      obtain ⟨q1, q2⟩ := p8 i hi
      rw [c1 _ (by omega) (by omega) (by omega) (by omega)]
      exact ⟨q1, TR_dec q2 q1.1 (kp _ (by omega))⟩
  · refine ⟨l, l1, by rw [c2]; exact l2, by rw [f0 26 (by decide)]; exact l3, fun i hi => ?_⟩
    rw [c3, cl 19 (by omega)]
    exact l4 i hi
  · refine ⟨r, r1, by rw [c4]; exact r2, ?_, fun i hi => ?_⟩
    · rw [f0 41 (by decide)]; exact r3
    · rw [c5, cl 41 (by omega)]; exact r4 i hi
  · intro i hi
    rw [c6, cl 1 (by omega)]
    exact rf i hi
  · intro t h1 h2
    by_cases e3 : t = 3
    · subst e3; exact c7
    · by_cases e4 : t = 4
      · subst e4; exact c8
      · rw [c1 t h1 (by omega) e3 e4]; exact zt t h1 h2
theorem sameC.rf {C M : jm_M} (h : Inv C M) : sameC C C := ⟨fun _ _ _ _ _ => rfl, rfl, rfl, fun _ => rfl, rfl, rfl, h.zt (by omega) (by omega), h.zt (by omega) (by omega), rfl⟩
theorem sameC_mind {C M : jm_M} (h : Inv C M) {T : jm_T} (hz : ZT T) : sameC C (stT C 4 T) := by
  refine ⟨fun t h1 h2 h3 h4 => stT_n h4, by rw [stT_n (by omega)], by rw [stT_n (by omega)], fun _ => by rw [stT_n (by omega)], by rw [stT_n (by omega)], by rw [stT_n (by omega)], ?_, ?_, by rw [stT_n (by omega)]⟩
  · rw [stT_n (by omega)]; exact h.zt (by omega) (by omega)
  · rw [stT_s]; exact hz
/-! answers -/
def SC (a b : Option (Int32 × jm_M)) : Prop := ∃ v C' M', a = some (v, C') ∧ b = some (v, M') ∧ Inv C' M'
def SL (a b : Option (Int64 × jm_M)) : Prop := ∃ v C' M', a = some (v, C') ∧ b = some (v, M') ∧ Inv C' M'
theorem SC.mk {v : Int32} {C' M' : jm_M} (h : Inv C' M') : SC (some (v, C')) (some (v, M')) := ⟨v, C', M', rfl, rfl, h⟩
theorem SL.mk {v : Int64} {C' M' : jm_M} (h : Inv C' M') : SL (some (v, C')) (some (v, M')) := ⟨v, C', M', rfl, rfl, h⟩
def rfC (C : jm_M) (k : Nat) : jm_M := jm_up C 0 12 k (C 0 12 k + 1)
def rfM (M : jm_M) (k : Nat) : jm_M := jm_up M 0 1 k (M 0 1 k + 1)
theorem W_refuse (C : jm_M) {k : Nat} {x : Int32} (hx : -x = nI k) (hk : k < 7) : sW_refuse C x = some (x, rfC C k) := by
  unfold sW_refuse
  rw [hx, zb_rd hk (by omega), zb_bs, zb_wa hk (by omega), zb_bs]
  rfl
theorem M_no (M : jm_M) {k : Nat} {x : Int32} (hx : -x = nI k) (hk : k < 7) : sM_no M x = some (x, rfM M k) := by
  unfold sM_no
  rw [hx, zb_rd hk (by omega), zb_bs, zb_wa hk (by omega), zb_bs]
  rfl
theorem M_lower (M : jm_M) {k : Nat} {x : Int32} (hx : -x = nI k) (hk : k < 7) : sM_lower M x = some (1000000000 - x, rfM M k) := by
  unfold sM_lower
  rw [hx, zb_rd hk (by omega), zb_bs, zb_wa hk (by omega), zb_bs]
  rfl
theorem M_lowest (M : jm_M) {k : Nat} {x : Int32} (hx : -x = nI k) (hk : k < 7) : sM_lowestOf M x = some (4000000000000000000 - x.toInt64, rfM M k) := by
  unfold sM_lowestOf
  rw [hx, zb_rd hk (by omega), zb_bs, zb_wa hk (by omega), zb_bs]
  rfl
theorem Inv_ref {C M : jm_M} (h : Inv C M) {k : Nat} (hk : k < 7) : Inv (rfC C k) (rfM M k) := by
  have eC : ∀ t, ¬ t = 0 → rfC C k t = C t := fun t ht => by funext a b; exact zb_up_n (by omega)
  have eC0 : ∀ j, ¬ j = 12 → rfC C k 0 j = C 0 j := fun j hj => by funext b; exact zb_up_n (by omega)
  have eM0 : ∀ j, ¬ j = 1 → rfM M k 0 j = M 0 j := fun j hj => by funext b; exact zb_up_n (by omega)
  obtain ⟨⟨i1, i2, i3⟩, im, ⟨m, L, f, p1, p2, p3, p4, p5, p6, p7, p8⟩, ⟨l, l1, l2, l3, l4⟩, ⟨r, r1, r2, r3, r4⟩, rf, zt, z17⟩ := h
  refine ⟨⟨?_, ?_, ?_⟩, ?_, ⟨m, L, f, p1, p2, p3, ?_, ?_, ?_, ?_, ?_⟩, ⟨l, l1, ?_, ?_, ?_⟩, ⟨r, r1, ?_, ?_, ?_⟩, ?_, ?_, by rw [eC 17 (by omega)]; exact z17⟩
  · rw [eC 1 (by omega)]; exact i1
  · rw [eC 1 (by omega)]; exact TR_core i2 i1.1 (fun j i hj => by rw [eM0 j (by rcases hj with ⟨h1, _⟩ | ⟨h1, _⟩ <;> omega)])
  · rw [eM0 0 (by omega)]; exact i3
  · rw [eC0 0 (by omega), eM0 0 (by omega), eC 2 (by omega), eM0 32 (by omega)]; exact im
  · rw [eC 13 (by omega)]; exact p4
  · rw [eC 13 (by omega)]; exact p5
  · rw [eM0 0 (by omega)]; exact p6
  · rw [eM0 0 (by omega)]; exact p7
  · intro i hi
    rw [eC _ (by omega), eM0 32 (by omega)]; exact p8 i hi
  · rw [eC 14 (by omega)]; exact l2
  · rw [eM0 0 (by omega)]; exact l3
  · rw [eC 14 (by omega), eM0 19 (by omega)]; exact l4
  · rw [eC0 0 (by omega)]; exact r2
  · rw [eM0 0 (by omega)]; exact r3
  · rw [eC0 10 (by omega), eM0 41 (by omega)]; exact r4
  · intro i hi
    unfold rfC rfM
    by_cases e : i = k
    · subst e; rw [zb_up_s, zb_up_s, rf i hi]
    · rw [zb_up_n (by omega), zb_up_n (by omega), rf i hi]
  · intro t h1 h2
    rw [eC t (by omega)]; exact zt t h1 h2
/-! who is there -/
abbrev noP (T : jm_T) (x : Int32) : Prop := x < 0 ∨ nI (np T) ≤ x
abbrev noB (T : jm_T) (x : Int32) : Prop := x < 0 ∨ nI (nb T) ≤ x
theorem isP {T : jm_T} (hc : ctT T) {x : Int32} (h : ¬ noP T x) : ∃ k, k < np T ∧ x = nI k := by
  have := hc.p.2
  rcases zb_arg x (np T) (by omega) with h1 | h1 | h1
  · exact absurd (Or.inl h1) h
  · exact absurd (Or.inr h1.2) h
  · exact h1
theorem isB {T : jm_T} (hc : ctT T) {x : Int32} (h : ¬ noB T x) : ∃ k, k < nb T ∧ x = nI k := by
  have := hc.b.2
  rcases zb_arg x (nb T) (by omega) with h1 | h1 | h1
  · exact absurd (Or.inl h1) h
  · exact absurd (Or.inr h1.2) h
  · exact h1
theorem T_hasPerson_x {C : jm_M} {t : Nat} (hc : ctT (C t)) (x : Int32) : sT_hasPerson C t x = some (if noP (C t) x then 0 else 1) := by
  by_cases h : noP (C t) x
  · rw [if_pos h]
    exact T_hasPerson_n hc (by
      by_cases h0 : x < 0
      · exact Or.inl h0
      · exact Or.inr ⟨h0, h.resolve_left h0⟩)
  · obtain ⟨k, hk, rfl⟩ := isP hc h
    rw [if_neg h, T_hasPerson_y hc hk]
theorem T_hasBook_x {C : jm_M} {t : Nat} (hc : ctT (C t)) (x : Int32) : sT_hasBook C t x = some (if noB (C t) x then 0 else 1) := by
  by_cases h : noB (C t) x
  · rw [if_pos h]
    exact T_hasBook_n hc (by
      by_cases h0 : x < 0
      · exact Or.inl h0
      · exact Or.inr ⟨h0, h.resolve_left h0⟩)
  · obtain ⟨k, hk, rfl⟩ := isB hc h
    rw [if_neg h, T_hasBook_y hc hk]
theorem T_hasKeeper_x {C : jm_M} {t : Nat} (hc : ctT (C t)) (x : Int32) : sT_hasKeeper C t x = some (if x = 9 then 1 else if noP (C t) x then 0 else 1) := by
  unfold sT_hasKeeper
  rw [T_hasPerson_x hc]
  simp only [zb_bs]
  by_cases h : x = 9
  · simp [h]
  · by_cases h2 : noP (C t) x <;> simp [h, h2]
abbrev ar2 (T : jm_T) (x y : Int32) : Prop := ¬ noP T x ∧ ¬ noP T y ∧ ¬ x = y
theorem zb_i10 {α : Type} {A B : α} : (if (1 : Int32) = 0 then A else B) = B := if_neg (by decide)
theorem zb_i00 {α : Type} {A B : α} : (if (0 : Int32) = 0 then A else B) = A := if_pos (by decide)
theorem W_areTwo {C : jm_M} (hc : ctT (C 1)) (x y : Int32) : sW_areTwo C x y = some (if ar2 (C 1) x y then 1 else 0) := by
  unfold sW_areTwo
  rw [T_hasPerson_x hc, T_hasPerson_x hc]
  simp only [zb_bs]
  by_cases h1 : noP (C 1) x
  · simp [h1]
  · by_cases h2 : noP (C 1) y
    · simp [h1, h2]
    · by_cases h3 : x = y <;> simp [h1, h2, h3]
theorem M_areTwo {T : jm_T} {M : jm_M} (hc : ctT T) (hr : TR T (M 0)) (x y : Int32) : sM_areTwo M x y = some (if ar2 T x y then 1 else 0) := by
  unfold sM_areTwo
  rw [M_isPerson_x hc hr, M_isPerson_x hc hr]
  simp only [zb_bs]
  by_cases h1 : noP T x
  · simp [h1]
  · by_cases h2 : noP T y
    · simp [h1, h2]
    · by_cases h3 : x = y <;> simp [h1, h2, h3]
theorem is2 {T : jm_T} (hc : ctT T) {x y : Int32} (h : ar2 T x y) : ∃ p q, p < np T ∧ q < np T ∧ ¬ p = q ∧ x = nI p ∧ y = nI q := by
  obtain ⟨p, hp, rfl⟩ := isP hc h.1
  obtain ⟨q, hq, rfl⟩ := isP hc h.2.1
  exact ⟨p, q, hp, hq, fun e => h.2.2 (by rw [e]), rfl, rfl⟩
theorem zb_upto {x : Int32} {n : Nat} (hn : n < 900000) (h0 : 0 ≤ x) (h1 : x ≤ nI n) : ∃ k, k ≤ n ∧ x = nI k := by
  rcases zb_arg x (n + 1) (by omega) with h | ⟨-, h⟩ | ⟨k, hk, e⟩
  · rw [Int32.le_iff_toInt_le] at h0
    rw [Int32.lt_iff_toInt_lt] at h
    omega
  · rw [Int32.le_iff_toInt_le] at h h1
    rw [nI_toInt (by omega)] at h h1
    omega
  · exact ⟨k, by omega, e⟩
theorem W_neither (x : Int32) : sW_isNeither x = some (if x = 0 ∨ x = 1 then 0 else 1) := by
  unfold sW_isNeither
  by_cases h : x = 0
  · simp [h]
  · by_cases h2 : x = 1 <;> simp [h, h2]
theorem M_isIn01 (x : Int32) : sM_isIn x 0 1 = some (if x = 0 ∨ x = 1 then 1 else 0) := by
  unfold sM_isIn
  by_cases h : x = 0
  · subst h; rfl
  · by_cases h2 : x = 1
    · subst h2; rfl
    · rw [if_neg (show ¬ (x = 0 ∨ x = 1) from fun e => e.elim h h2)]
      by_cases h3 : x < 0
      · rw [if_pos h3]
      · rw [if_neg h3, if_pos]
        rw [Int32.lt_iff_toInt_lt] at h3 ⊢
        rw [← Int32.toInt_inj] at h h2
        have e0 : (0 : Int32).toInt = 0 := rfl
        have e1 : (1 : Int32).toInt = 1 := rfl
        omega
