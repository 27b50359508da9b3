/-! what to buy -/
noncomputable def bP (T : jm_T) (b : Nat) : Nat := zb_N (ts_price T b)
noncomputable def bH (T : jm_T) (p q b : Nat) : Nat := zb_N (ts_comes T p q b)
noncomputable def pS (T : jm_T) (s : Nat) : Nat := sm (fun b => s.testBit b = true) (bP T) (nb T)
noncomputable def hS (T : jm_T) (p q s : Nat) : Nat := sm (fun b => s.testBit b = true) (bH T p q) (nb T)
noncomputable def bS (s : Nat) : Nat := zb_N (ts_bc (nI s))
noncomputable def kS (T : jm_T) (s : Nat) : Nat := pS T s * 16 + bS s
noncomputable def oS (T : jm_T) (p q s : Nat) : Nat := sm (fun b => ts_on T p q b ∨ s.testBit b = true) (bH T p q) (nb T)
noncomputable def mS (T : jm_T) (p q : Nat) : Nat := sm (fun b => ts_on T p q b) (bH T p q) (nb T)
noncomputable def cS (T : jm_T) (p q : Nat) : Nat := zb_N (T 2 p) + zb_N (T 2 q)
noncomputable def feaR (T : jm_T) (p q s : Nat) : Prop := (∀ b, s.testBit b = true → T 8 b = 9) ∧ cS T p q ≤ oS T p q s
noncomputable def feaC (T : jm_T) (p q s : Nat) : Prop := (∀ b, s.testBit b = true → T 8 b = 9 ∧ ¬ ts_on T p q b) ∧ cS T p q ≤ mS T p q + hS T p q s
theorem zb_sN0 {m c : Nat} (hm : m < 1000000) (hc : c < 1000000) : (nI m - nI c < 0) = (m < c) := by
  have h : (nI m - nI c).toInt = (m : Int) - c := pk_sub_toInt (by omega) (by omega)
  have e0 : (0 : Int32).toInt = 0 := rfl
  rw [Int32.lt_iff_toInt_lt, h, e0]
  exact propext (by omega)
theorem zb_sNc {h m c : Nat} (hh : h < 1000000) (hm : m < 1000000) (hc : c < 1000000) : (nI h < -(nI m - nI c)) = (h + m < c) := by
  have e : (nI c - nI m).toInt = (c : Int) - m := pk_sub_toInt (by omega) (by omega)
  have e2 : (nI h).toInt = h := nI_toInt (by omega)
  rw [Int32.neg_sub, Int32.lt_iff_toInt_lt, e, e2]
  exact propext (by omega)
theorem zb_ns {a b m : Nat} : -nI a - nI b + nI m = nI m - nI (a + b) := by
  rw [← nI_add, Int32.sub_eq_add_neg, Int32.sub_eq_add_neg, Int32.neg_add, Int32.sub_eq_add_neg, Int32.add_comm]
section
variable {T : jm_T} {M : jm_M} {w : Nat}
theorem bP_at (hw : wfT w T) {b : Nat} (hb : b < nb T) : ts_price T b = nI (bP T b) ∧ bP T b ≤ 30 := zb_in_N (ts_price_in hw hb) (by omega)
theorem bH_at (hw : wfT w T) (hw2 : w < 1000000) {p q b : Nat} (hb : b < nb T) : ts_comes T p q b = nI (bH T p q b) ∧ bH T p q b ≤ 6336 := zb_in_N (ts_comes_in hw hw2 hb p q) (by omega)
theorem bS_at {s : Nat} (hs : s < 1024) : ts_bc (nI s) = nI (bS s) ∧ bS s ≤ 10 := ts_bc_in s hs
theorem sums_le (hw : wfT w T) (hw2 : w < 1000000) (p q s : Nat) : pS T s ≤ 300 ∧ hS T p q s ≤ 63360 ∧ oS T p q s ≤ 63360 ∧ mS T p q ≤ 63360 := by
  have h10 := hw.1.b.2
  have a := sm_le (fun b => s.testBit b = true) (bP T) 30 (nb T) (fun k hk => (bP_at hw hk).2)
  have b := sm_le (fun b => s.testBit b = true) (bH T p q) 6336 (nb T) (fun k hk => (bH_at hw hw2 hk).2)
  have c := sm_le (fun b => ts_on T p q b ∨ s.testBit b = true) (bH T p q) 6336 (nb T) (fun k hk => (bH_at hw hw2 hk).2)
  have d := sm_le (fun b => ts_on T p q b) (bH T p q) 6336 (nb T) (fun k hk => (bH_at hw hw2 hk).2)
  unfold pS hS oS mS
  omega
theorem ov_W (hw : wfT w T) (hw2 : w < 1000000) {s : Nat} (hs : s < 1024) (p q : Nat) : ∀ n, n ≤ nb T → ts_overW T (nI s) p q n = (-T 2 p - T 2 q) + nI (sm (fun b => ts_on T p q b ∨ s.testBit b = true) (bH T p q) n) := by
  have h10 := hw.1.b.2
  intro n
  induction n with
  | zero => intro _; exact (Int32.add_zero _).symm
  | succ n ih =>
    intro hn
    have i := ih (by omega)
    show (if ts_on T p q n ∨ hbit (nI s) n then ts_overW T (nI s) p q n + ts_comes T p q n else ts_overW T (nI s) p q n) = _
    rw [i, sm_S, (bH_at hw hw2 (show n < nb T by omega)).1]
    have e := zb_hb n (by omega) s hs
    by_cases c : ts_on T p q n ∨ s.testBit n = true
    · rw [if_pos (c.elim Or.inl (fun z => Or.inr (e.2 z))), if_pos c, Int32.add_assoc, nI_add]
    · rw [if_neg (fun z => c (z.elim Or.inl (fun z => Or.inr (e.1 z)))), if_neg c]
theorem cS_at (hw : wfT w T) {p q : Nat} (hp : p < np T) (hq : q < np T) : (∀ m, (-T 2 p - T 2 q) + nI m = nI m - nI (cS T p q)) ∧ cS T p q ≤ 198 := by
  obtain ⟨a1, a2⟩ := zb_in_N (hw.2.2.1 p hp).1 (by omega)
  obtain ⟨b1, b2⟩ := zb_in_N (hw.2.2.1 q hq).1 (by omega)
  unfold cS
  refine ⟨fun m => ?_, by omega⟩
  rw [a1, b1, zb_N_nI (by omega), zb_N_nI (by omega)]
  exact zb_ns
theorem ov_s (hw : wfT w T) (hw2 : w < 1000000) {s p q : Nat} (hs : s < 1024) (hp : p < np T) (hq : q < np T) : ts_overW T (nI s) p q (nb T) = nI (oS T p q s) - nI (cS T p q) := by
  rw [ov_W hw hw2 hs p q (nb T) (Nat.le_refl _), (cS_at hw hp hq).1]
  rfl
theorem oS_0 (T : jm_T) (p q : Nat) : oS T p q 0 = mS T p q := sm_congr _ _ (fun k _ => ⟨fun z => z.elim id (fun z => by simp at z), Or.inl⟩)
theorem ov_0 (hw : wfT w T) (hw2 : w < 1000000) {p q : Nat} (hp : p < np T) (hq : q < np T) : ts_over T p q = nI (mS T p q) - nI (cS T p q) := by
  rw [← oS_0, ← ov_s hw hw2 (show 0 < 1024 by omega) hp hq, nI_0, ts_overW0]
  rfl
theorem oS_d {p q s : Nat} (h : ∀ b, s.testBit b = true → ¬ ts_on T p q b) : oS T p q s = mS T p q + hS T p q s := sm_or _ _ (fun k _ a b => h k b a)
/-- of what lies on the pan already nothing is bought -/
theorem fea_more (hw : wfT w T) {p q : Nat} {r : Option Nat} (h : argm (feaC T p q) (kS T) (2 ^ nb T) r) : argm (feaR T p q) (kS T) (2 ^ nb T) r := by
  have h10 := hw.1.b.2
  have hN := zb_two (nb T) h10
  refine argm_more h (fun k hk a => ⟨fun b hb => (a.1 b hb).1, ?_⟩) (fun k hk a => ?_)
  · rw [oS_d (fun b hb => (a.1 b hb).2)]
    exact a.2
  · obtain ⟨m, m1, m2⟩ := bits_of (fun b => ¬ ts_on T p q b) (nb T) h10
    have hle : k &&& m ≤ k := Nat.and_le_left
    have tb : ∀ b, (k &&& m).testBit b = true → k.testBit b = true ∧ ¬ ts_on T p q b := by
      intro b hb
      rw [Nat.testBit_and, Bool.and_eq_true] at hb
      exact ⟨hb.1, (m2 b (tb_lt hk hb.1)).1 hb.2⟩
    refine ⟨k &&& m, hle, ⟨fun b hb => ⟨a.1 b (tb b hb).1, (tb b hb).2⟩, ?_⟩, ?_⟩
    · have e : oS T p q k = oS T p q (k &&& m) := sm_congr _ _ (fun b hb => ⟨fun z => by
        by_cases o : ts_on T p q b
        · exact Or.inl o
        · refine Or.inr ?_
          rw [Nat.testBit_and, Bool.and_eq_true]
          exact ⟨z.resolve_left o, (m2 b hb).2 o⟩, fun z => z.elim Or.inl (fun z => Or.inr (tb b z).1)⟩)
      rw [← oS_d (fun b hb => (tb b hb).2), ← e]
      exact a.2
    · have e1 : pS T (k &&& m) ≤ pS T k := sm_mono _ _ (fun b _ hb => (tb b hb).1)
      have e2 : bS (k &&& m) ≤ bS k := bc_mono (by omega) (by omega) (fun b hb => (tb b hb).1)
      unfold kS
      omega
theorem kS_lt {a b : Nat} (ha : a < 1024) (hb : b < 1024) : (kS T a < kS T b) = (pS T a < pS T b ∨ (pS T a = pS T b ∧ bS a < bS b)) := by
  have := (bS_at ha).2
  have := (bS_at hb).2
  unfold kS
  exact propext (by omega)
theorem M_ownedBy (hc : ctT T) (hr : TR T (M 0)) : ∃ o, sM_ownedBy M 9 = some (nI o) ∧ o < 2 ^ nb T ∧ ∀ b, b < nb T → (o.testBit b = true ↔ T 8 b = 9) := by
  have h := hc.b
  unfold sM_ownedBy
  obtain ⟨e, e1, o, o1, o2, o3⟩ := zb_ch (f := sM_ownedBy_L4 M 9) (s := (0, 0)) (fun (k : Nat) (u : Int32 × Int32) => ∃ m, u = (m, nI k) ∧ isM k (fun b => T 8 b = 9) m) (fun e => isM (nb T) (fun b => T 8 b = 9) e) (nb T) (by omega) ⟨0, rfl, isM_0 _⟩ (by
    intro k hk u hu
    obtain ⟨m, rfl, hm⟩ := hu
    left
    unfold sM_ownedBy_L4
    simp only []
    rw [hr.1.2.1, h.1, if_neg (zb_nle hk (by omega)), zb_rd (by omega) (by omega), zb_bs, (hr.2.2.1 k hk).2.2.1, nI_1]
    by_cases c : T 8 k = 9
    · rw [if_pos c, zb_bs]
      exact ⟨_, rfl, _, rfl, isM_add (by omega) hm c⟩
    · rw [if_neg c, zb_bs]
      exact ⟨_, rfl, _, rfl, isM_not hm c⟩) (by
    intro u hu
    obtain ⟨m, rfl, hm⟩ := hu
    unfold sM_ownedBy_L4
    simp only []
    rw [hr.1.2.1, h.1, if_pos (zb_yle (Nat.le_refl _) (by omega))]
    exact ⟨_, rfl, hm⟩)
  rw [e1, zb_bs, o2]
  exact ⟨o, rfl, o1, o3⟩
theorem M_pricesOf (hw : wfT w T) (hr : TR T (M 0)) {s : Nat} (hs : s < 1024) : sM_pricesOf M (nI s) = some (nI (pS T s)) := by
  have h := hw.1.b
  unfold sM_pricesOf
  refine zb_forB (fun k => (nI (sm (fun b => s.testBit b = true) (bP T) k), nI k)) _ (nb T) rfl ?_ ?_ (by omega) rfl
  · intro k hk
    unfold sM_pricesOf_L4
    simp only []
    rw [hr.1.2.1, h.1, if_neg (zb_nle hk (by omega)), M_has, zb_bs, M_price hw hr hk, zb_bs, (bP_at hw hk).1, sm_S, nI_1, Int32.add_zero, zb_bs, nI_add, zb_bs]
    have e := zb_hb k (by omega) s hs
    by_cases c : s.testBit k = true
    · rw [if_pos (e.2 c), zb_i10, if_pos c]
    · rw [if_neg (fun z => c (e.1 z)), zb_i00, if_neg c]
  · unfold sM_pricesOf_L4
    simp only []
    rw [hr.1.2.1, h.1, if_pos (zb_yle (Nat.le_refl _) (by omega))]
    rfl
theorem M_isBetter (hw : wfT w T) (hw2 : w < 1000000) (hr : TR T (M 0)) {k : Nat} (hk : k < 1024) {r : Option Nat} (hr2 : ∀ b, r = some b → b < 1024) : sM_isBetter M (nI k) (zb_o r) = some (match r with | none => 1 | some b => if kS T k < kS T b then 1 else 0) := by
  unfold sM_isBetter
  cases r with
  | none => rw [if_neg (show ¬ (0 : Int32) ≤ zb_o none from by decide)]
  | some b =>
    have hb := hr2 b rfl
    obtain ⟨a1, a2⟩ := bS_at hk
    obtain ⟨b1, b2⟩ := bS_at hb
    have pk := (sums_le hw hw2 0 0 k).1
    have pb := (sums_le hw hw2 0 0 b).1
    have e := kS_lt (T := T) hk hb
    show (if 0 ≤ nI b then _ else _) = some (if kS T k < kS T b then 1 else 0)
    rw [if_pos (zb_nd2 (by omega))]
    show (sM_pricesOf M (nI k)).bind (fun r2 => (sM_pricesOf M (nI b)).bind (fun r3 => if r2 = r3 then (sM_bits (nI k)).bind (fun r5 => (sM_bits (nI b)).bind (fun r6 => if r6 ≤ r5 then some 0 else some 1)) else (sM_pricesOf M (nI k)).bind (fun r8 => (sM_pricesOf M (nI b)).bind (fun r9 => if r9 ≤ r8 then some 0 else some 1)))) = _
    rw [M_pricesOf hw hr hk, zb_bs, M_pricesOf hw hr hb, zb_bs, M_bits hk, M_bits hb, zb_bs, zb_bs, zb_bs, zb_bs, a1, b1]
    by_cases c : pS T k = pS T b
    · rw [if_pos (by rw [c])]
      by_cases d : bS k < bS b
      · rw [if_neg (zb_nle d (by omega)), if_pos (e.mpr (Or.inr ⟨c, d⟩))]
      · rw [if_pos (zb_yle (by omega) (by omega)), if_neg (fun z => (e.mp z).elim (fun z => by omega) (fun z => d z.2))]
    · rw [if_neg (show ¬ nI (pS T k) = nI (pS T b) by rw [zb_eq (by omega) (by omega)]; exact c)]
      by_cases d : pS T k < pS T b
      · rw [if_neg (zb_nle d (by omega)), if_pos (e.mpr (Or.inl d))]
      · rw [if_pos (zb_yle (by omega) (by omega)), if_neg (fun z => (e.mp z).elim (fun z => d z) (fun z => c z.1))]
theorem M_buyLoop (hw : wfT w T) (hw2 : w < 1000000) (hr : TR T (M 0)) {p q o : Nat} (hp : p < np T) (hq : q < np T) (ho : o < 2 ^ nb T) (ho2 : ∀ b, b < nb T → (o.testBit b = true ↔ T 8 b = 9)) : ∃ e, jm_loop (sM_buy_L57 M (nI o) (nI p) (nI q)) jm_N ((-9), 0) = some e ∧ ∃ r, e = zb_o r ∧ argm (feaR T p q) (kS T) (2 ^ nb T) r := by
  have h := hw.1.b
  have hN := zb_two (nb T) h.2
  have ht := hr.1.2.1
  refine zb_ch (fun (k : Nat) (u : Int32 × Int32) => ∃ r, u = (zb_o r, nI k) ∧ argm (feaR T p q) (kS T) k r) _ (2 ^ nb T) (by omega) ⟨none, rfl, fun k hk => by omega⟩ ?_ ?_
  · intro k hk u hu
    obtain ⟨r, rfl, ha⟩ := hu
    left
    have hlt : ∀ b, r = some b → b < 1024 := fun b e => by subst e; have := ha.1; omega
    have so := (sums_le hw hw2 p q k).2.2.1
    have cs := (cS_at hw hp hq).2
    have esub : (nI k &&& (nI o ^^^ (-1)) = 0) = (∀ b, k.testBit b = true → T 8 b = 9) := by
      rw [sub_z (by omega) (by omega)]
      exact propext ⟨fun z b hb => (ho2 b (tb_lt hk hb)).1 (z b hb), fun z b hb => (ho2 b (tb_lt hk hb)).2 (z b hb)⟩
    have hov : (ts_overW T (nI k) p q (nb T) < 0) = (oS T p q k < cS T p q) := by
      rw [ov_s hw hw2 (by omega) hp hq, zb_sN0 (by omega) (by omega)]
    unfold sM_buy_L57
    simp only []
    rw [ht, h.1, zb_shl (nb T) h.2, if_neg (zb_nle hk (by omega)), M_isBetter hw hw2 hr (by omega) hlt, zb_bs, M_overWith hw hw2 hr hp hq, zb_bs, nI_1]
    by_cases c1 : ∀ b, k.testBit b = true → T 8 b = 9
    · rw [if_pos (esub.mpr c1)]
      by_cases c2 : oS T p q k < cS T p q
      · have nf : ¬ feaR T p q k := fun z => by have := z.2; omega
        rw [if_pos (hov.mpr c2), ite_self]
        exact ⟨_, rfl, r, rfl, argm_skip ha nf⟩
      · have yf : feaR T p q k := ⟨c1, by omega⟩
        rw [if_neg (fun z => c2 (hov.mp z))]
        cases r with
        | none =>
          rw [if_neg (show ¬ (1 : Int32) = 0 by decide)]
          exact ⟨_, rfl, some k, rfl, argm_new ha yf (fun b e => by cases e)⟩
        | some b =>
          show ∃ s', (if (if kS T k < kS T b then (1 : Int32) else 0) = 0 then _ else _) = _ ∧ _
          by_cases c3 : kS T k < kS T b
          · rw [if_pos c3, zb_i10]
            exact ⟨_, rfl, some k, rfl, argm_new ha yf (fun c e => by cases e; exact c3)⟩
          · rw [if_neg c3, zb_i00]
            exact ⟨_, rfl, some b, rfl, argm_old ha (by omega)⟩
    · rw [if_neg (fun z => c1 (esub.mp z))]
      exact ⟨_, rfl, r, rfl, argm_skip ha (fun z => c1 z.1)⟩
  · intro u hu
    obtain ⟨r, rfl, ha⟩ := hu
    unfold sM_buy_L57
    simp only []
    rw [ht, h.1, zb_shl (nb T) h.2, if_pos (zb_yle (Nat.le_refl _) (by omega))]
    exact ⟨_, rfl, r, rfl, ha⟩
end
