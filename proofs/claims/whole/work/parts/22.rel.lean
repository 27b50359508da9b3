/-! what a town must be, and how the reference has it: g its rows (M 0), cell by cell -/
noncomputable def pl (T : jm_T) (x : Int32) : Prop := x = 9 ∨ ∃ k, k < np T ∧ x = nI k
noncomputable def tl_v (d0 d1 d2 d3 : Nat) : Nat := ((d0 * 27 + d1) * 27 + d2) * 27 + d3
noncomputable def tl_d (d0 d1 d2 d3 : Nat) : Prop := 1 ≤ d0 ∧ d0 ≤ 26 ∧ d1 ≤ 26 ∧ d2 ≤ 26 ∧ d3 ≤ 26 ∧ (d1 = 0 → d2 = 0) ∧ (d2 = 0 → d3 = 0)
noncomputable def tl (x : Int32) : Prop := ∃ d0 d1 d2 d3, tl_d d0 d1 d2 d3 ∧ x = nI (tl_v d0 d1 d2 d3)
noncomputable def wfT (w : Nat) (T : jm_T) : Prop := ctT T ∧ zb_in (T 0 11) w ∧
  (∀ p, p < np T → zb_in (T 2 p) 99 ∧ zb_in (T 3 p) 9 ∧ zb_in (T 4 p) 99) ∧
  (∀ b, b < nb T → zb_in (T 6 b) 7 ∧ zb_in (T 7 b) 9 ∧ pl T (T 8 b) ∧ pl T (T 9 b) ∧ zb_in (T 10 b) (2 ^ np T - 1) ∧ tl (T 11 b)) ∧
  (∀ i, i < ns T → zb_in (T 14 i) 7 ∧ zb_in (T 15 i) 99) ∧
  (∀ a b, a < nb T → b < nb T → T 11 a = T 11 b → a = b)
noncomputable def dg (g : jm_T) (b k : Nat) : Nat := if k < zb_N (g 10 b) then zb_N (g 11 (4 * b + k)) + 1 else 0
noncomputable def ti (T g : jm_T) (b : Nat) : Prop := zb_in (g 10 b) 4 ∧ 1 ≤ zb_N (g 10 b) ∧ (∀ k, k < zb_N (g 10 b) → zb_in (g 11 (4 * b + k)) 25) ∧ T 11 b = nI (tl_v (dg g b 0) (dg g b 1) (dg g b 2) (dg g b 3))
noncomputable def TR (T g : jm_T) : Prop := (g 0 13 = T 0 0 ∧ g 0 14 = T 0 4 ∧ g 0 15 = T 0 11 ∧ g 0 16 = T 0 12) ∧
  (∀ p, p < np T → g 2 p = T 2 p ∧ g 3 p = T 3 p ∧ g 4 p = T 4 p) ∧
  (∀ b, b < nb T → g 5 b = T 6 b ∧ g 6 b = T 7 b ∧ g 7 b = T 8 b ∧ g 8 b = T 9 b ∧ g 9 b = T 10 b ∧ ti T g b) ∧
  (∀ i, i < ns T → g 12 i = T 14 i ∧ g 13 i = T 15 i)
theorem wfT.w {w : Nat} {T : jm_T} (h : wfT w T) (hw : w < 1000000) : T 0 11 = nI (nw T) ∧ nw T ≤ w := zb_in_N h.2.1 hw
theorem ts_bc_in : ∀ r, r < 1024 → ts_bc (nI r) = nI (zb_N (ts_bc (nI r))) ∧ zb_N (ts_bc (nI r)) ≤ 10 := by decide +kernel
theorem ts_bc_in6 : ∀ r, r < 64 → zb_N (ts_bc (nI r)) ≤ 6 := by decide +kernel
theorem M_bits_fold : ∀ r, r < 1024 → zf (fun k v => v + ((nI r >>> (nI k &&& 31)) &&& 1)) 31 0 = ts_bc (nI r) := by decide +kernel
theorem M_bits {r : Nat} (hr : r < 1024) : sM_bits (nI r) = some (ts_bc (nI r)) := by
  unfold sM_bits
  refine zb_forB (fun k => (zf (fun k v => v + ((nI r >>> (nI k &&& 31)) &&& 1)) k 0, nI k)) (ts_bc (nI r)) 31 rfl ?_ ?_ (by omega) rfl
  · intro k hk
    unfold sM_bits_L4
    rw [if_neg (show ¬ (31 : Int32) ≤ nI k from zb_nle (a := 31) hk (by omega))]
    simp only [zb_bs, nI_1, zf]
  · unfold sM_bits_L4
    rw [← M_bits_fold r hr]
    rw [if_pos (show (31 : Int32) ≤ nI 31 from zb_yle (Nat.le_refl 31) (by omega))]
theorem np6 {T : jm_T} (h : ctT T) : 2 ^ np T ≤ 64 := by
  have := h.p.2
  calc 2 ^ np T ≤ 2 ^ 6 := Nat.pow_le_pow_right (by omega) this
    _ = 64 := by decide
theorem wfT.rd {w : Nat} {T : jm_T} (h : wfT w T) {b : Nat} (hb : b < nb T) : ∃ r, r < 64 ∧ r < 2 ^ np T ∧ T 10 b = nI r := by
  obtain ⟨r, hr, e⟩ := (h.2.2.2.1 b hb).2.2.2.2.1
  have := np6 h.1
  have h1 : 0 < 2 ^ np T := Nat.two_pow_pos _
  exact ⟨r, by omega, by omega, e⟩
theorem tl_lt {d0 d1 d2 d3 : Nat} (h : tl_d d0 d1 d2 d3) : tl_v d0 d1 d2 d3 < 531441 := by
  obtain ⟨h0, h1, h2, h3, h4, -⟩ := h
  unfold tl_v
  omega
theorem ti_d {T g : jm_T} {b : Nat} (h : ti T g b) : tl_d (dg g b 0) (dg g b 1) (dg g b 2) (dg g b 3) := by
  obtain ⟨h1, h2, h3, -⟩ := h
  have h4 := (zb_in_N h1 (by omega)).2
  have e : ∀ k, k < 4 → dg g b k ≤ 26 ∧ (dg g b k = 0 → ¬ k < zb_N (g 10 b)) := by
    intro k hk
    unfold dg
    by_cases q : k < zb_N (g 10 b)
    · have := (zb_in_N (h3 k q) (by omega)).2
      rw [if_pos q]
      exact ⟨by omega, fun z => by omega⟩
    · rw [if_neg q]
      exact ⟨by omega, fun _ => q⟩
  have z : ∀ k, ¬ k < zb_N (g 10 b) → dg g b k = 0 := fun k q => by unfold dg; rw [if_neg q]
  have e0 := e 0 (by omega); have e1 := e 1 (by omega); have e2 := e 2 (by omega); have e3 := e 3 (by omega)
  refine ⟨?_, e0.1, e1.1, e2.1, e3.1, fun q => z 2 ?_, fun q => z 3 ?_⟩
  · rcases Nat.eq_zero_or_pos (dg g b 0) with q | q
    · exact absurd h2 (by have := e0.2 q; omega)
    · exact q
  · have := e1.2 q; omega
  · have := e2.2 q; omega
