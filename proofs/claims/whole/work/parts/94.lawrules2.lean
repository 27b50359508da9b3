def jl_E (E : jm_Ev) (a : Nat → Nat → Nat) : jm_Ev := (E.1, E.2.1, E.2.2.1, E.2.2.2.1, E.2.2.2.2.1, a)
def jl_C (E : jm_Ev) (ac am : Nat → Nat → Nat) (p : Program) (s : State) (m : MethodId) (meth : Method) (c : Code) (b L : Nat) (xs : Nat → Int32) : Prop :=
  lw_At p s m meth c b L xs ∧ L ≤ 3072 ∧ va_K (jm_D E) jm_cl (jm_tys E) s ∧ jl_Z E (fun q => s.heap.size ≤ q) s ∧ jm_dj (jl_E E ac) jm_LC ∧ jm_dj (jl_E E am) jm_LM ∧ (∀ q, jm_A (jl_E E ac) jm_LC q → s.heap.size ≤ q) ∧ (∀ q, jm_A (jl_E E am) jm_LM q → s.heap.size ≤ q) ∧ (∀ q, jm_A (jl_E E ac) jm_LC q → jm_A (jl_E E am) jm_LM q → False)
section
variable {E : jm_Ev} {ac am : Nat → Nat → Nat} {p : Program} {s : State} {m : MethodId} {meth : Method} {c : Code} {b L : Nat} {xs : Nat → Int32}
theorem jl_C.at0 (C : jl_C E ac am p s m meth c b L xs) : lw_At p s m meth c b L xs := C.1
theorem jl_C.hL (C : jl_C E ac am p s m meth c b L xs) : L ≤ 3072 := C.2.1
theorem jl_C.hK (C : jl_C E ac am p s m meth c b L xs) : va_K (jm_D E) jm_cl (jm_tys E) s := C.2.2.1
theorem jl_C.hZ (C : jl_C E ac am p s m meth c b L xs) : jl_Z E (fun q => s.heap.size ≤ q) s := C.2.2.2.1
theorem jl_C.dC (C : jl_C E ac am p s m meth c b L xs) : jm_dj (jl_E E ac) jm_LC := C.2.2.2.2.1
theorem jl_C.dM (C : jl_C E ac am p s m meth c b L xs) : jm_dj (jl_E E am) jm_LM := C.2.2.2.2.2.1
theorem jl_C.aC (C : jl_C E ac am p s m meth c b L xs) : ∀ q, jm_A (jl_E E ac) jm_LC q → s.heap.size ≤ q := C.2.2.2.2.2.2.1
theorem jl_C.aM (C : jl_C E ac am p s m meth c b L xs) : ∀ q, jm_A (jl_E E am) jm_LM q → s.heap.size ≤ q := C.2.2.2.2.2.2.2.1
theorem jl_C.ap (C : jl_C E ac am p s m meth c b L xs) : ∀ q, jm_A (jl_E E ac) jm_LC q → jm_A (jl_E E am) jm_LM q → False := C.2.2.2.2.2.2.2.2
end
def jl_W (E : jm_Ev) (ac am : Nat → Nat → Nat) (p : Program) (e : Env) (s : State) (m : MethodId) (below : List Frame) (meth : Method) (c : Code) (b : Nat) (pc j : Nat) (st : List Value) (Mc Mm : jm_M) : Prop :=
  ∀ (ls : Array Slot) (H : Heap) (locs : List Loc), lv_has ls 4 [(0, .ref b), (1, .ref (ac 0 0)), (2, .ref (am 0 0)), (3, .int (nI j))] → va_P (jm_D E) jm_cl (jm_ws (jl_E E ac) jm_LC Mc) H → va_P (jm_D E) jm_cl (jm_ws (jl_E E am) jm_LM Mm) H → va_S (fun q => s.heap.size ≤ q) s.heap H locs → W p (jm_l E) e room_1 s m #[Value.ref b] below meth c H locs 600000 7302250 (lw_Z below #[Value.ref b] s) (F0 m pc ls st)
theorem jl_own {E : jm_Ev} {ac am : Nat → Nat → Nat} {p : Program} {s : State} {m : MethodId} {meth : Method} {c : Code} {b L : Nat} {xs : Nat → Int32} (C : jl_C E ac am p s m meth c b L xs) : s.vm.findClass "WeighedInBooksLaw" = some m.cls := C.at0.2.2.2.2.1
theorem jl_tb {E : jm_Ev} {ac am : Nat → Nat → Nat} {p : Program} {s : State} {m : MethodId} {meth : Method} {c : Code} {b L : Nat} {xs : Nat → Int32} (C : jl_C E ac am p s m meth c b L xs) : ∀ w ∈ jm_tb, w.before #[Value.ref b] s = true := fun w hw => C.at0.2.2.2.2.2.1 w (List.mem_filter.mp hw).1
section
variable {E : jm_Ev} {ac am : Nat → Nat → Nat} {p : Program} {e : Env} {s : State} {m : MethodId} {below : List Frame} {meth : Method} {c : Code} {b L : Nat} {xs : Nat → Int32} {pc j : Nat} {st : List Value} {Mc Mm : jm_M}
theorem jl_arg (C : jl_C E ac am p s m meth c b L xs) {k : Nat} {q : Int} (hq : Int32.ofInt q = nI k) (hj : j + k < L) (d0 : decode code pc = .ok (.aload_n 0, 1)) (d1 : decode code (pc + 1) = .ok (.iload_n 3, 1)) (d2 : decode code (pc + 2) = .ok (.iconst q, 1)) (d3 : decode code (pc + 3) = .ok (.iadd, 1)) (d4 : decode code (pc + 4) = .ok (.iaload, 1)) (kk : jl_W E ac am p e s m below meth c b (pc + 5) j (.int (xs (j + k)) :: st) Mc Mm) : jl_W E ac am p e s m below meth c b pc j st Mc Mm := by
  intro ls H locs hl hC hM hS
  have hx := C.at0.1
  have hb := C.at0.2.1
  have hL := C.hL
  refine lv_aload_n hx hb d0 rfl (lv_at hl 0 rfl) ?_
  refine lv_iload_n hx hb d1 rfl (lv_at hl 3 rfl) ?_
  refine lv_iconst hx hb d2 hq ?_
  refine lv_iadd hx hb d3 ?_
  rw [nI_add]
  refine va_sld (A := fun q => s.heap.size ≤ q) hx hb C.at0.2.2.2.2.2.2.1 C.at0.2.2.2.2.2.2.2.1 (Nat.not_le.mpr C.at0.2.2.2.2.2.2.2.1) hS (vp_in_nI hj (by omega)) d4 ?_
  rw [nI_clamp (by omega)]
  exact kk ls H locs hl hC hM hS
theorem jl_ref1 (C : jl_C E ac am p s m meth c b L xs) (d0 : decode code pc = .ok (.aload_n 1, 1)) (kk : jl_W E ac am p e s m below meth c b (pc + 1) j (.ref (ac 0 0) :: st) Mc Mm) : jl_W E ac am p e s m below meth c b pc j st Mc Mm := by
  intro ls H locs hl hC hM hS
  exact lv_aload_n C.at0.1 C.at0.2.1 d0 rfl (lv_at hl 1 rfl) (kk ls H locs hl hC hM hS)
theorem jl_ref2 (C : jl_C E ac am p s m meth c b L xs) (d0 : decode code pc = .ok (.aload_n 2, 1)) (kk : jl_W E ac am p e s m below meth c b (pc + 1) j (.ref (am 0 0) :: st) Mc Mm) : jl_W E ac am p e s m below meth c b pc j st Mc Mm := by
  intro ls H locs hl hC hM hS
  exact lv_aload_n C.at0.1 C.at0.2.1 d0 rfl (lv_at hl 2 rfl) (kk ls H locs hl hC hM hS)
theorem jl_cC (C : jl_C E ac am p s m meth c b L xs) {index : Nat} {y : MethodName} {bytes : ByteArray} {maxL d n na : Nat} {ret' : Option FieldType} {As : List Value} {v : Value} {Mc' : jm_M} {stk : List Value} (hc : jm_CV "WeighedInBooksLaw" index y bytes maxL ret' na) (hna : As.length = na) (hy : RX8 = y.cls) (hM : jm_Ct (jl_E E ac) jm_LC y bytes maxL ret' d n (.ref (jm_a (jl_E E ac) 0 0) :: As) Mc (some v) Mc') (hst : stk = As.reverse ++ [.ref (ac 0 0)]) (hR : d + 1 ≤ 12 ∧ 8 + (maxL + 11) + n ≤ 462) (hd : decode code pc = .ok (.invokevirtual index, 3)) (kk : jl_W E ac am p e s m below meth c b (pc + 3) j [v] Mc' Mm) : jl_W E ac am p e s m below meth c b pc j stk Mc Mm := by
  intro ls H locs hl hC hMm hS
  exact jl_call (E1 := jl_E E ac) (E2 := jl_E E am) (X1 := jm_LC) (X2 := jm_LM) (M1' := Mc') (M2 := Mm) (A := fun q => s.heap.size ≤ q) (As := As) (rest := []) (t := 0) (ci := 6) (fs := jm_fsX8) (v := some v) (nL := 4) C.at0.1 C.at0.2.1 C.at0.2.2.2.1 (jl_own C) (jl_tb C) C.hK C.hZ C.aC C.ap hc hna lo_X8 (congrArg some hy) hM hst (Nat.zero_le _) hR hd hl.1 ⟨Nat.le_refl _, Nat.le_refl _⟩ hC hMm hS (fun H1 locs1 h1 h2 h3 => kk ls H1 locs1 hl h1 h2 h3)
theorem jl_cM (C : jl_C E ac am p s m meth c b L xs) {index : Nat} {y : MethodName} {bytes : ByteArray} {maxL d n na : Nat} {ret' : Option FieldType} {As : List Value} {v u : Value} {Mm' : jm_M} {stk : List Value} (hc : jm_CV "WeighedInBooksLaw" index y bytes maxL ret' na) (hna : As.length = na) (hy : RX9 = y.cls) (hM : jm_Ct (jl_E E am) jm_LM y bytes maxL ret' d n (.ref (jm_a (jl_E E am) 0 0) :: As) Mm (some v) Mm') (hst : stk = As.reverse ++ [.ref (am 0 0), u]) (hR : d + 1 ≤ 12 ∧ 8 + (maxL + 11) + n ≤ 462) (hd : decode code pc = .ok (.invokevirtual index, 3)) (hu : u.category ≤ 8) (kk : jl_W E ac am p e s m below meth c b (pc + 3) j [v, u] Mc Mm') : jl_W E ac am p e s m below meth c b pc j stk Mc Mm := by
  intro ls H locs hl hC hMm hS
  exact jl_call (E1 := jl_E E am) (E2 := jl_E E ac) (X1 := jm_LM) (X2 := jm_LC) (M1' := Mm') (M2 := Mc) (A := fun q => s.heap.size ≤ q) (As := As) (rest := [u]) (t := 0) (ci := 7) (fs := jm_fsX9) (v := some v) (nL := 4) C.at0.1 C.at0.2.1 C.at0.2.2.2.1 (jl_own C) (jl_tb C) C.hK C.hZ C.aM (fun q h1 h2 => C.ap q h2 h1) hc hna lo_X9 (congrArg some hy) hM hst (by simpa using hu) hR hd hl.1 ⟨Nat.le_refl _, Nat.le_refl _⟩ hMm hC hS (fun H1 locs1 h1 h2 h3 => kk ls H1 locs1 hl h2 h1 h3)
theorem jl_eqI (C : jl_C E ac am p s m meth c b L xs) {v : Int32} {off : Int} (hd : decode code pc = .ok (.if_icmp .eq off, 3)) (ht : (pc : Int) + off = ((1581 : Nat) : Int)) (kk : jl_W E ac am p e s m below meth c b 1581 j [] Mc Mm) : jl_W E ac am p e s m below meth c b pc j [.int v, .int v] Mc Mm := by
  intro ls H locs hl hC hM hS
  exact lv_icmp_eq C.at0.1 C.at0.2.1 hd ht (fun _ => kk ls H locs hl hC hM hS) (fun h => absurd rfl h)
theorem jl_eqL (C : jl_C E ac am p s m meth c b L xs) {v : Int64} {off : Int} (h0 : decode code pc = .ok (.lcmp, 1)) (hd : decode code (pc + 1) = .ok (.ifCond .eq off, 3)) (ht : ((pc + 1 : Nat) : Int) + off = ((1581 : Nat) : Int)) (kk : jl_W E ac am p e s m below meth c b 1581 j [] Mc Mm) : jl_W E ac am p e s m below meth c b pc j [.long v, .long v] Mc Mm := by
  intro ls H locs hl hC hM hS
  refine W.lcmp C.at0.1 C.at0.2.1 h0 ?_
  have hz : lg_cmp v v = 0 := by simp [lg_cmp]
  exact lv_if_eq C.at0.1 C.at0.2.1 hd ht (fun _ => kk ls H locs hl hC hM hS) (fun h => absurd hz h)
end
