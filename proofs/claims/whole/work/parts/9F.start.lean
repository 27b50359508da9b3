theorem jn_z0 : zb_N 0 = 0 := by decide
theorem jn_zi (m : Nat) : zb_in 0 m := ⟨0, Nat.zero_le _, by decide⟩
theorem jn_t0 {t : Nat} (h : ¬ t = 13) : jn_M0 t = fun _ _ => 0 := by
  funext j k
  show (if t = 13 ∧ j = 0 ∧ k = 1 then (7 : Int32) else 0) = 0
  rw [if_neg (fun z => h z.1)]
theorem jn_wf0 : wfT 999 (fun _ _ => 0) := by
  have e1 : np (fun _ _ => 0) = 0 := jn_z0
  have e2 : nb (fun _ _ => 0) = 0 := jn_z0
  have e3 : ns (fun _ _ => 0) = 0 := jn_z0
  refine ⟨⟨jn_zi _, jn_zi _, jn_zi _⟩, jn_zi _, fun p h => ?_, fun b h => ?_, fun i h => ?_, fun a b h _ _ => ?_⟩
  · rw [e1] at h; exact absurd h (Nat.not_lt_zero _)
  · rw [e2] at h; exact absurd h (Nat.not_lt_zero _)
  · rw [e3] at h; exact absurd h (Nat.not_lt_zero _)
  · rw [e2] at h; exact absurd h (Nat.not_lt_zero _)
theorem jn_TR0 : TR (fun _ _ => 0) (fun _ _ => 0) := by
  have e1 : np (fun _ _ => 0) = 0 := jn_z0
  have e2 : nb (fun _ _ => 0) = 0 := jn_z0
  have e3 : ns (fun _ _ => 0) = 0 := jn_z0
  refine ⟨⟨rfl, rfl, rfl, rfl⟩, fun p h => ?_, fun b h => ?_, fun i h => ?_⟩
  · rw [e1] at h; exact absurd h (Nat.not_lt_zero _)
  · rw [e2] at h; exact absurd h (Nat.not_lt_zero _)
  · rw [e3] at h; exact absurd h (Nat.not_lt_zero _)
theorem jn_Inv0 : Inv jn_M0 jn_Z := by
  have e1 : jn_M0 1 = fun _ _ => 0 := jn_t0 (by decide)
  have e0 : jn_M0 0 = fun _ _ => 0 := jn_t0 (by decide)
  refine ⟨⟨by rw [e1]; exact jn_wf0, by rw [e1]; exact jn_TR0, rfl⟩, Or.inl ⟨by rw [e0], rfl⟩, ⟨0, 7, 0, by decide, by decide, by decide, by decide, by decide, by decide, by decide, fun i h => absurd h (Nat.not_lt_zero _)⟩, ⟨0, by decide, by rw [jn_t0 (by decide)]; decide, by decide, fun i h => absurd h (Nat.not_lt_zero _)⟩, ⟨0, by decide, by rw [e0]; decide, by decide, fun i h => absurd h (Nat.not_lt_zero _)⟩, fun i _ => by rw [e0]; rfl, fun t h1 h2 => ?_, by rw [jn_t0 (by decide)]⟩
  rw [jn_t0 (by omega)]
  exact fun _ _ _ => rfl
theorem jn_sub {E : jm_Ev} {X X' : jm_Lay} {M : jm_M} {H : Heap} (h : va_P (jm_D E) jm_cl (jm_ws E X M) H) (hX : ∀ r ∈ X', r ∈ X) : va_P (jm_D E) jm_cl (jm_ws E X' M) H := by
  intro k q hq
  rw [jm_ws, List.getElem?_map] at hq
  cases hr : X'[k]? with
  | none => rw [hr] at hq; cases hq
  | some r =>
    rw [hr] at hq
    cases hq
    obtain ⟨i, hi⟩ := List.getElem?_of_mem (hX r (List.mem_of_getElem? hr))
    exact h i _ (jm_ws_at hi)
theorem jn_dj {E : jm_Ev} {A : Nat → Prop} {X X' : jm_Lay} {M : jm_M} (hD : va_D A (jm_ws E X M)) (hX : ∀ r ∈ X', r ∈ X) (hn : (X'.map (fun q => q.1)).Nodup) : jm_dj E X' := by
  intro i j p q hi hj e
  obtain ⟨i', hi'⟩ := List.getElem?_of_mem (hX p (List.mem_of_getElem? hi))
  obtain ⟨j', hj'⟩ := List.getElem?_of_mem (hX q (List.mem_of_getElem? hj))
  have h := hD.1 i' j' _ _ (jm_ws_at hi') (jm_ws_at hj') e
  subst h
  have hpq : p = q := Option.some.inj (hi'.symm.trans hj')
  subst hpq
  refine (List.getElem?_inj (by rw [List.length_map]; exact (List.getElem?_eq_some_iff.mp hi).1) hn).mp ?_
  rw [List.getElem?_map, List.getElem?_map, hi, hj]
theorem jn_Aof {E : jm_Ev} {A : Nat → Prop} {X X' : jm_Lay} {M : jm_M} (hD : va_D A (jm_ws E X M)) (hX : ∀ r ∈ X', r ∈ X) : ∀ q, jm_A E X' q → A q := by
  intro q h
  obtain ⟨r, hr, e⟩ := h
  obtain ⟨i, hi⟩ := List.getElem?_of_mem (hX r hr)
  rw [e]
  exact hD.2 i _ (jm_ws_at hi)
theorem jn_inof {X X' : jm_Lay} (is : List Nat) (h : is.map (fun i => X[i]?) = X'.map some) : ∀ r ∈ X', r ∈ X := by
  intro r hr
  have h1 : some r ∈ X'.map some := List.mem_map.mpr ⟨r, hr, rfl⟩
  rw [← h] at h1
  obtain ⟨i, -, hi⟩ := List.mem_map.mp h1
  exact List.mem_of_getElem? hi
theorem jn_LCin : ∀ r ∈ jm_LC, r ∈ jn_LW := jn_inof [0, 159, 160, 161, 1, 2, 3, 4, 5, 6, 7, 8, 9, 10, 11, 12, 111, 112, 113, 114, 115, 116, 117, 118, 119, 120, 121, 122, 125, 126, 127, 128, 129, 130, 131, 132, 133, 134, 135, 136, 138, 139, 140, 141, 142, 143, 144, 145, 146, 147, 148, 149, 15, 16, 17, 18, 19, 20, 21, 22, 23, 24, 25, 26, 27, 28, 29, 30, 31, 32, 33, 34, 35, 36, 37, 38, 39, 40, 41, 42, 43, 44, 45, 46, 47, 48, 49, 50, 51, 52, 53, 54, 55, 56, 57, 58, 59, 60, 61, 62, 63, 64, 65, 66, 67, 68, 69, 70, 71, 72, 73, 74, 75, 76, 77, 78, 79, 80, 81, 82, 83, 84, 85, 86, 87, 88, 89, 90, 91, 92, 93, 94, 95, 96, 97, 98, 99, 100, 101, 102, 103, 104, 105, 106, 107, 108, 109, 110, 13, 14, 123, 124, 137, 150, 151, 152, 153, 154, 155, 156, 157, 158] rfl
theorem jn_LCn : (jm_LC.map (fun q => q.1)).Nodup := by decide +kernel
theorem jn_LMn : (jm_LM.map (fun q => q.1)).Nodup := by decide +kernel
theorem jn_left {A : Nat → Prop} {w1 w2 : va_W} (h : va_D A (w1 ++ w2)) : va_D A w1 := ⟨fun i j p q hi hj e => h.1 i j p q (by rw [List.getElem?_append_left (List.getElem?_eq_some_iff.mp hi).1]; exact hi) (by rw [List.getElem?_append_left (List.getElem?_eq_some_iff.mp hj).1]; exact hj) e, fun k q hk => h.2 k q (by rw [List.getElem?_append_left (List.getElem?_eq_some_iff.mp hk).1]; exact hk)⟩
theorem jn_rat {w1 w2 : va_W} {k : Nat} {q : Nat × va_E} (h : w2[k]? = some q) : (w1 ++ w2)[w1.length + k]? = some q := by
  rw [List.getElem?_append_right (Nat.le_add_right _ _), Nat.add_sub_cancel_left]
  exact h
theorem jn_right {A : Nat → Prop} {w1 w2 : va_W} (h : va_D A (w1 ++ w2)) : va_D A w2 := ⟨fun i j p q hi hj e => by have := h.1 _ _ p q (jn_rat (w1 := w1) hi) (jn_rat (w1 := w1) hj) e; omega, fun k q hk => h.2 _ q (jn_rat (w1 := w1) hk)⟩
theorem jn_apart {A : Nat → Prop} {E1 E2 : jm_Ev} {X1 X2 Y1 Y2 : jm_Lay} {M1 M2 : jm_M} (h : va_D A (jm_ws E1 X1 M1 ++ jm_ws E2 X2 M2)) (h1 : ∀ r ∈ Y1, r ∈ X1) (h2 : ∀ r ∈ Y2, r ∈ X2) : ∀ q, jm_A E1 Y1 q → jm_A E2 Y2 q → False := by
  intro q hp hq
  obtain ⟨r1, m1, e1⟩ := hp
  obtain ⟨r2, m2, e2⟩ := hq
  obtain ⟨i, hi⟩ := List.getElem?_of_mem (h1 r1 m1)
  obtain ⟨j, hj⟩ := List.getElem?_of_mem (h2 r2 m2)
  have a1 : (jm_ws E1 X1 M1)[i]? = some (jm_cell E1 M1 r1) := jm_ws_at hi
  have hl := (List.getElem?_eq_some_iff.mp a1).1
  have := h.1 i _ _ _ (by rw [List.getElem?_append_left hl]; exact a1) (jn_rat (w1 := jm_ws E1 X1 M1) (jm_ws_at (M := M2) hj)) (show jm_a E1 r1.1.1 r1.1.2 = jm_a E2 r2.1.1 r2.1.2 by rw [← e1, ← e2])
  omega
theorem jn_known {args : Array Value} {s : State} (l : Launch) (hts : ∀ w ∈ lw_tbl, w.before args s = true) (htb : ∀ w ∈ jm_tb, w.before args s = true) (hgv : (Jvm.Cond.and given_1 narrow_1).before args s = true) : ∃ E : jm_Ev, jm_l E = l ∧ va_K (jm_D E) jm_cl (jm_tys E) s ∧ jl_Z E (fun q => s.heap.size ≤ q) s ∧ jn_N s := by
  obtain ⟨c0, i0, k0⟩ := u_known (C := RX0) (T := TX0) (N := 4) (n := 4) htb inX0 (htb _ tw_261)
  obtain ⟨c1, i1, k1⟩ := u_known (C := RX1) (T := TX1) (N := 4) (n := 4) htb inX1 (htb _ tw_282)
  obtain ⟨c2, i2, k2⟩ := u_known (C := RX2) (T := TX2) (N := 7) (n := 7) htb inX2 (htb _ tw_227)
  obtain ⟨c3, i3, k3⟩ := u_known (C := RX4) (T := TX4) (N := 3) (n := 3) htb inX4 (htb _ tw_185)
  obtain ⟨c4, i4, k4⟩ := u_known (C := RX5) (T := TX5) (N := 4) (n := 4) htb inX5 (htb _ tw_205)
  obtain ⟨c5, i5, k5⟩ := u_known (C := RX7) (T := TX7) (N := 15) (n := 15) htb inX7 (htb _ tw_104)
  obtain ⟨c6, i6, k6⟩ := u_known (C := RX8) (T := TX8) (N := 12) (n := 12) htb inX8 (htb _ tw_96)
  obtain ⟨c7, i7, k7⟩ := u_known (C := RX9) (T := TX9) (N := 44) (n := 44) htb inX9 (htb _ tw_953)
  obtain ⟨cI, kI, compI, f1, f2, f3⟩ := Cond.arrayClass_spec (htb _ tw_183)
  have hov : (Cond.arrayOver (.object "WeighedInBooks$Town")).before args s = true := hts _ (List.mem_of_getElem? (i := 191) (by decide +kernel))
  obtain ⟨compT, cT, kT, g1, g2, g3, g4, g5⟩ := Cond.arrayOver_spec hov
  have hs := flat_of_before _ hgv
  have hlt : ∀ a : Nat, a < s.heap.size → ¬ (fun q => s.heap.size ≤ q) a := fun a h => Nat.not_le.mpr h
  obtain ⟨tS, t1, t2⟩ := va_Tof (args := args) (s := s) (tm := (.static "WeighedInBooks$Statements" "STEP_LETTERS" "[C")) (ty := .char) (N := 8) (f := fun k => .int (jm_SL k)) (A := fun q => s.heap.size ≤ q) (by decide) (hs _ (by decide +kernel)) (va_eqt (hs (.eq (.length (.static "WeighedInBooks$Statements" "STEP_LETTERS" "[C")) (.int 8)) (by decide +kernel))) (fun j hj => by
    rcases (show j = 0 ∨ j = 1 ∨ j = 2 ∨ j = 3 ∨ j = 4 ∨ j = 5 ∨ j = 6 ∨ j = 7 by omega) with rfl | rfl | rfl | rfl | rfl | rfl | rfl | rfl
    · exact va_eqt (hs (.eq (.elem (.static "WeighedInBooks$Statements" "STEP_LETTERS" "[C") (.int 0)) (.int 97)) (by decide +kernel))
    · exact va_eqt (hs (.eq (.elem (.static "WeighedInBooks$Statements" "STEP_LETTERS" "[C") (.int 1)) (.int 108)) (by decide +kernel))
    · exact va_eqt (hs (.eq (.elem (.static "WeighedInBooks$Statements" "STEP_LETTERS" "[C") (.int 2)) (.int 99)) (by decide +kernel))
    · exact va_eqt (hs (.eq (.elem (.static "WeighedInBooks$Statements" "STEP_LETTERS" "[C") (.int 3)) (.int 116)) (by decide +kernel))
    · exact va_eqt (hs (.eq (.elem (.static "WeighedInBooks$Statements" "STEP_LETTERS" "[C") (.int 4)) (.int 100)) (by decide +kernel))
    · exact va_eqt (hs (.eq (.elem (.static "WeighedInBooks$Statements" "STEP_LETTERS" "[C") (.int 5)) (.int 117)) (by decide +kernel))
    · exact va_eqt (hs (.eq (.elem (.static "WeighedInBooks$Statements" "STEP_LETTERS" "[C") (.int 6)) (.int 104)) (by decide +kernel))
    · exact va_eqt (hs (.eq (.elem (.static "WeighedInBooks$Statements" "STEP_LETTERS" "[C") (.int 7)) (.int 111)) (by decide +kernel))) hlt
  refine ⟨(l, ((fun k => match k with | 0 => c0 | 1 => c1 | 2 => c2 | 3 => c3 | 4 => c4 | 5 => c5 | 6 => c6 | _ => c7), (fun k => match k with | 0 => i0 | 1 => i1 | 2 => i2 | 3 => i3 | 4 => i4 | 5 => i5 | 6 => i6 | _ => i7)), cI, cT, tS, fun _ _ => 0), rfl, ⟨fun c q hq => ?_, fun k q hk => ?_⟩, ⟨va_Zof (hts (.laysStatic "WeighedInBooks$Statements" "STEP_LETTERS" "[C") (List.mem_of_getElem? (i := 396) (by decide +kernel))) (hts (.initialized "WeighedInBooks$Statements") (List.mem_of_getElem? (i := 85) (by decide +kernel))) t1 hlt, t2⟩, ?_⟩
  · match c, hq with
    | 0, hq => cases hq; exact k0
    | 1, hq => cases hq; exact k1
    | 2, hq => cases hq; exact k2
    | 3, hq => cases hq; exact k3
    | 4, hq => cases hq; exact k4
    | 5, hq => cases hq; exact k5
    | 6, hq => cases hq; exact k6
    | 7, hq => cases hq; exact k7
    | c + 8, hq => exact absurd (List.getElem?_eq_some_iff.mp hq).1 (by simp)
  · match k, hk with
    | 0, hk => cases hk; exact ⟨fun n z => ⟨fun k h => (by cases h), kI, f2, compI, f3⟩, f1⟩
    | 1, hk => cases hk; exact ⟨fun n z => ⟨fun k h => (by cases h), kT, g3, compT, g4⟩, kT, compT, g3, g4, g1, g5⟩
    | k + 2, hk => exact absurd (List.getElem?_eq_some_iff.mp hk).1 (by simp)
  · exact ⟨va_Nw.of rfl (hts (.methodLinkNest "WeighedInBooks" 9 yX7_init "WeighedInBooks") (List.mem_of_getElem? (i := 105) (by decide +kernel))), va_Nw.of rfl (hts (.methodLinkNest "WeighedInBooks" 28 yX5_init "WeighedInBooks") (List.mem_of_getElem? (i := 206) (by decide +kernel))), va_Nw.of rfl (hts (.methodLinkNest "WeighedInBooks" 35 yX2_init "WeighedInBooks") (List.mem_of_getElem? (i := 228) (by decide +kernel))), va_Nw.of rfl (hts (.methodLinkNest "WeighedInBooks" 42 yX0_init "WeighedInBooks") (List.mem_of_getElem? (i := 262) (by decide +kernel))), va_Nw.of rfl (hts (.methodLinkNest "WeighedInBooks" 49 yX1_init "WeighedInBooks") (List.mem_of_getElem? (i := 283) (by decide +kernel))), va_Nw.of rfl (hts (.methodLinkNest "WeighedInBooks$Past" 21 yX7_init "WeighedInBooks") (List.mem_of_getElem? (i := 192) (by decide +kernel))), va_Nw.of rfl (hts (.methodLinkNest "WeighedInBooks$Statements" 17 yX7_init "WeighedInBooks") (List.mem_of_getElem? (i := 211) (by decide +kernel))), va_Nw.of rfl (hts (.methodLinkNest "WeighedInBooks$Foresight" 11 yX7_init "WeighedInBooks") (List.mem_of_getElem? (i := 233) (by decide +kernel))), va_AO.of hov⟩
theorem whole_start {p : Program} {e : Env} {s : State} {m : MethodId} {below : List Frame} {meth : Method} {c : Code} (l : Launch) (hflags : l.flags = flags0) {b L : Nat} {xs : Nat → Int32} (hL : L ≤ 3072) (C0 : lw_At p s m meth c b L xs) : W p l e room_1 s m #[Value.ref b] below meth c s.heap [] 0 0 (lw_Z below #[Value.ref b] s) (entryFrame m ([Value.ref b] : List Value).toArray 4) := by
  obtain ⟨hx, hb, hr, hml, hown, hts, hX, hbl, hlocks, hgv⟩ := id C0
  have htb : ∀ w ∈ jm_tb, w.before #[Value.ref b] s = true := fun w hw => hts w (List.mem_filter.mp hw).1
  obtain ⟨E, rfl, hK, hZ, hN⟩ := jn_known l hts htb hgv
  have hown' : s.vm.findClass "WeighedInBooksLaw" = some m.cls := hown
  have hA : ∀ q : Nat, s.heap.size ≤ q → (fun q : Nat => s.heap.size ≤ q) q := fun _ h => h
  have hS : va_S (fun q : Nat => s.heap.size ≤ q) s.heap s.heap [] := va_S.rf
  have hP : va_P (jm_D E) jm_cl [] s.heap := fun k q h => by simp at h
  have hD : va_D (fun q : Nat => s.heap.size ≤ q) [] := ⟨fun i j p q h => by simp at h, fun k q h => by simp at h⟩
  have hl := lv_entry ([.ref b]) (n := 4) (Nat.le_of_ble_eq_true rfl)
  rw [lg_entry_eq]
  generalize (lg_sl ([.ref b]) ++ List.replicate (4 - (lg_sl ([.ref b])).length) Slot.unset).toArray = ls at hl ⊢
  have hl : lv_has ls 4 [(0, .ref b)] := hl
  have S : CallFix p m c code 4 s #[Value.ref b] jm_tb "WeighedInBooksLaw" := ⟨hx, hb, hml, hown', htb⟩
  obtain ⟨C8, T8, ty8, f1, f2, f3, f4, f5, f6, f7⟩ := jnK_L_7
  refine va_new hx hb htb f2 ty8 f3 hown' (htb _ f4) (htb _ f5) (htb _ f6) hK hP hD hS hA f1 f7 (Nat.le_of_ble_eq_true rfl) (Nat.le_of_ble_eq_true rfl) dL_law_0 (fun q1 H hP hD hS => ?_)
  refine lv_dup hx hb dL_law_3 rfl ?_
  refine jn_init (w := []) (A := fun q : Nat => s.heap.size ≤ q) S hK hN jnC_L_9 (jn_cX8 E) ⟨Nat.le_of_ble_eq_true rfl, Nat.le_of_ble_eq_true rfl⟩ ⟨Nat.le_of_ble_eq_true rfl, Nat.le_of_ble_eq_true rfl⟩ (by simp [Value.category]) dL_law_4 hl.1 hP hD hS hA (fun adW H locs hW0 hP hD hS => ?_)
  refine lv_astore_n hx hb dL_law_7 rfl hl (by decide) rfl (fun ls hl => ?_)
  obtain ⟨C9, T9, ty9, g1, g2, g3, g4, g5, g6, g7⟩ := jnK_L_10
  refine va_new hx hb htb g2 ty9 g3 hown' (htb _ g4) (htb _ g5) (htb _ g6) hK hP hD hS hA g1 g7 (Nat.le_of_ble_eq_true rfl) (Nat.le_of_ble_eq_true rfl) dL_law_8 (fun q2 H hP hD hS => ?_)
  refine lv_dup hx hb dL_law_11 rfl ?_
  refine jn_init (w := jm_ws (jl_E E adW) jn_LW jn_M0) (A := fun q : Nat => s.heap.size ≤ q) S hK hN jnC_L_12 (jn_cX9 E) ⟨Nat.le_of_ble_eq_true rfl, Nat.le_of_ble_eq_true rfl⟩ ⟨Nat.le_of_ble_eq_true rfl, Nat.le_of_ble_eq_true rfl⟩ (by simp [Value.category]) dL_law_12 hl.1 hP hD hS hA (fun adM H2 locs2 hM0 hP2 hD2 hS2 => ?_)
  clear hP hD hS
  subst hW0 hM0
  refine lv_astore_n hx hb dL_law_15 rfl hl (by decide) rfl (fun ls hl => ?_)
  refine lv_iconst hx hb dL_law_16 (by decide : Int32.ofInt 0 = nI 0) ?_
  refine lv_istore_n hx hb dL_law_17 rfl hl (by decide) rfl (fun ls hl => ?_)
  refine W.widen (k := 600000) (n := 7302250) (Nat.le_of_ble_eq_true rfl) (Nat.le_of_ble_eq_true rfl) ?_
  have hDW := jn_left (w1 := jm_ws (jl_E E adW) jn_LW jn_M0) hD2
  have hDM := jn_right (w1 := jm_ws (jl_E E adW) jn_LW jn_M0) hD2
  have hPW : va_P (jm_D E) jm_cl (jm_ws (jl_E E adW) jn_LW jn_M0) H2 := fun k q hk => hP2 k q (by rw [List.getElem?_append_left (List.getElem?_eq_some_iff.mp hk).1]; exact hk)
  have hPM : va_P (jm_D E) jm_cl (jm_ws (jl_E E adM) jm_LM jn_Z) H2 := fun k q hk => hP2 _ q (jn_rat hk)
  have C : jl_C E adW adM p s m meth c b L xs := ⟨C0, hL, hK, hZ, jn_dj hDW jn_LCin jn_LCn, jn_dj hDM (fun _ h => h) jn_LMn, jn_Aof hDW jn_LCin, jn_Aof hDM (fun _ h => h), jn_apart hD2 jn_LCin (fun _ h => h)⟩
  exact jl_loop C 4000 0 jn_M0 jn_Z (by omega) (by omega) jn_Inv0 ls H2 locs2 (lv_sub hl [3, 2, 1, 0] rfl) (jn_sub hPW jn_LCin) hPM hS2
