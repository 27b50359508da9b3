theorem jl_cmp {L j : Nat} (hL : L ≤ 3072) (hj : j ≤ 4000) : (nI L - 6 < nI j ↔ ¬ (j + 6 ≤ L)) := by
  have e6 : (6 : Int32) = nI 6 := by decide
  by_cases h : 6 ≤ L
  · have e : nI L - 6 = nI (L - 6) := by
      have e1 : nI L = nI (L - 6) + 6 := by rw [e6, nI_add]; congr 1; omega
      rw [e1, Int32.add_sub_cancel]
    rw [e, nI_ltI (by omega) (by omega)]
    omega
  · have h1 : nI L - 6 < 0 := by
      rcases (show L = 0 ∨ L = 1 ∨ L = 2 ∨ L = 3 ∨ L = 4 ∨ L = 5 by omega) with rfl | rfl | rfl | rfl | rfl | rfl <;> decide
    have h2 : (0 : Int32) ≤ nI j := nI_pos' (by omega)
    have h3 : nI L - 6 < nI j := Std.lt_of_lt_of_le h1 h2
    exact ⟨fun _ => by omega, fun _ => h3⟩
section
variable {E : jm_Ev} {ac am : Nat → Nat → Nat} {p : Program} {e : Env} {s : State} {m : MethodId} {below : List Frame} {meth : Method} {c : Code} {b L : Nat} {xs : Nat → Int32} {j : Nat} {Mc Mm : jm_M}
theorem jl_sw (C : jl_C E ac am p s m meth c b L xs) (hj : j + 6 ≤ L) (hI : Inv Mc Mm) (kk : ∀ C' M', Inv C' M' → jl_W E ac am p e s m below meth c b 1581 j [] C' M') {x : Int32} {t : Nat} (hx : x = nI t) (ht : t < 64) : jl_W E ac am p e s m below meth c b 33 j [.int x] Mc Mm := by
  subst hx
  have hti : (nI t).toInt = (t : Int) := nI_toInt (by omega)
  intro ls H locs hl hC hM hS
  have hX := C.at0.1
  have hb := C.at0.2.1
  by_cases h42 : 42 < t
  · exact lv_tableOut hX hb dL_law_33 (Or.inr (by rw [hti]; omega)) (by decide : ((33 : Nat) : Int) + 1548 = ((1581 : Nat) : Int)) (kk Mc Mm hI ls H locs hl hC hM hS)
  · have k1 : ¬ (nI t).toInt < 0 := by rw [hti]; omega
    have k2 : ¬ 42 < (nI t).toInt := by rw [hti]; omega
    have k3 : ((nI t).toInt - 0).toNat = t := by rw [hti]; omega
    rcases (show t = 0 ∨ t = 1 ∨ t = 2 ∨ t = 3 ∨ t = 4 ∨ t = 5 ∨ t = 6 ∨ t = 7 ∨ t = 8 ∨ t = 9 ∨ t = 10 ∨ t = 11 ∨ t = 12 ∨ t = 13 ∨ t = 14 ∨ t = 15 ∨ t = 16 ∨ t = 17 ∨ t = 18 ∨ t = 19 ∨ t = 20 ∨ t = 21 ∨ t = 22 ∨ t = 23 ∨ t = 24 ∨ t = 25 ∨ t = 26 ∨ t = 27 ∨ t = 28 ∨ t = 29 ∨ t = 30 ∨ t = 31 ∨ t = 32 ∨ t = 33 ∨ t = 34 ∨ t = 35 ∨ t = 36 ∨ t = 37 ∨ t = 38 ∨ t = 39 ∨ t = 40 ∨ t = 41 ∨ t = 42 by omega) with rfl | rfl | rfl | rfl | rfl | rfl | rfl | rfl | rfl | rfl | rfl | rfl | rfl | rfl | rfl | rfl | rfl | rfl | rfl | rfl | rfl | rfl | rfl | rfl | rfl | rfl | rfl | rfl | rfl | rfl | rfl | rfl | rfl | rfl | rfl | rfl | rfl | rfl | rfl | rfl | rfl | rfl | rfl
    · exact lv_tableIn hX hb dL_law_33 k1 k2 (off := 187) (by rw [k3]; rfl) (by decide : ((33 : Nat) : Int) + 187 = ((220 : Nat) : Int)) (jl_k0 C hj hI kk ls H locs hl hC hM hS)
    · exact lv_tableIn hX hb dL_law_33 k1 k2 (off := 210) (by rw [k3]; rfl) (by decide : ((33 : Nat) : Int) + 210 = ((243 : Nat) : Int)) (jl_k1 C hj hI kk ls H locs hl hC hM hS)
    · exact lv_tableIn hX hb dL_law_33 k1 k2 (off := 223) (by rw [k3]; rfl) (by decide : ((33 : Nat) : Int) + 223 = ((256 : Nat) : Int)) (jl_k2 C hj hI kk ls H locs hl hC hM hS)
    · exact lv_tableIn hX hb dL_law_33 k1 k2 (off := 256) (by rw [k3]; rfl) (by decide : ((33 : Nat) : Int) + 256 = ((289 : Nat) : Int)) (jl_k3 C hj hI kk ls H locs hl hC hM hS)
    · exact lv_tableIn hX hb dL_law_33 k1 k2 (off := 289) (by rw [k3]; rfl) (by decide : ((33 : Nat) : Int) + 289 = ((322 : Nat) : Int)) (jl_k4 C hj hI kk ls H locs hl hC hM hS)
    · exact lv_tableIn hX hb dL_law_33 k1 k2 (off := 322) (by rw [k3]; rfl) (by decide : ((33 : Nat) : Int) + 322 = ((355 : Nat) : Int)) (jl_k5 C hj hI kk ls H locs hl hC hM hS)
    · exact lv_tableIn hX hb dL_law_33 k1 k2 (off := 365) (by rw [k3]; rfl) (by decide : ((33 : Nat) : Int) + 365 = ((398 : Nat) : Int)) (jl_k6 C hj hI kk ls H locs hl hC hM hS)
    · exact lv_tableIn hX hb dL_law_33 k1 k2 (off := 418) (by rw [k3]; rfl) (by decide : ((33 : Nat) : Int) + 418 = ((451 : Nat) : Int)) (jl_k7 C hj hI kk ls H locs hl hC hM hS)
    · exact lv_tableIn hX hb dL_law_33 k1 k2 (off := 451) (by rw [k3]; rfl) (by decide : ((33 : Nat) : Int) + 451 = ((484 : Nat) : Int)) (jl_k8 C hj hI kk ls H locs hl hC hM hS)
    · exact lv_tableIn hX hb dL_law_33 k1 k2 (off := 484) (by rw [k3]; rfl) (by decide : ((33 : Nat) : Int) + 484 = ((517 : Nat) : Int)) (jl_k9 C hj hI kk ls H locs hl hC hM hS)
    · exact lv_tableIn hX hb dL_law_33 k1 k2 (off := 517) (by rw [k3]; rfl) (by decide : ((33 : Nat) : Int) + 517 = ((550 : Nat) : Int)) (jl_k10 C hj hI kk ls H locs hl hC hM hS)
    · exact lv_tableIn hX hb dL_law_33 k1 k2 (off := 550) (by rw [k3]; rfl) (by decide : ((33 : Nat) : Int) + 550 = ((583 : Nat) : Int)) (jl_k11 C hj hI kk ls H locs hl hC hM hS)
    · exact lv_tableIn hX hb dL_law_33 k1 k2 (off := 583) (by rw [k3]; rfl) (by decide : ((33 : Nat) : Int) + 583 = ((616 : Nat) : Int)) (jl_k12 C hj hI kk ls H locs hl hC hM hS)
    · exact lv_tableIn hX hb dL_law_33 k1 k2 (off := 596) (by rw [k3]; rfl) (by decide : ((33 : Nat) : Int) + 596 = ((629 : Nat) : Int)) (jl_k13 C hj hI kk ls H locs hl hC hM hS)
    · exact lv_tableIn hX hb dL_law_33 k1 k2 (off := 619) (by rw [k3]; rfl) (by decide : ((33 : Nat) : Int) + 619 = ((652 : Nat) : Int)) (jl_k14 C hj hI kk ls H locs hl hC hM hS)
    · exact lv_tableIn hX hb dL_law_33 k1 k2 (off := 632) (by rw [k3]; rfl) (by decide : ((33 : Nat) : Int) + 632 = ((665 : Nat) : Int)) (jl_k15 C hj hI kk ls H locs hl hC hM hS)
    · exact lv_tableIn hX hb dL_law_33 k1 k2 (off := 665) (by rw [k3]; rfl) (by decide : ((33 : Nat) : Int) + 665 = ((698 : Nat) : Int)) (jl_k16 C hj hI kk ls H locs hl hC hM hS)
    · exact lv_tableIn hX hb dL_law_33 k1 k2 (off := 708) (by rw [k3]; rfl) (by decide : ((33 : Nat) : Int) + 708 = ((741 : Nat) : Int)) (jl_k17 C hj hI kk ls H locs hl hC hM hS)
    · exact lv_tableIn hX hb dL_law_33 k1 k2 (off := 751) (by rw [k3]; rfl) (by decide : ((33 : Nat) : Int) + 751 = ((784 : Nat) : Int)) (jl_k18 C hj hI kk ls H locs hl hC hM hS)
    · exact lv_tableIn hX hb dL_law_33 k1 k2 (off := 794) (by rw [k3]; rfl) (by decide : ((33 : Nat) : Int) + 794 = ((827 : Nat) : Int)) (jl_k19 C hj hI kk ls H locs hl hC hM hS)
    · exact lv_tableIn hX hb dL_law_33 k1 k2 (off := 827) (by rw [k3]; rfl) (by decide : ((33 : Nat) : Int) + 827 = ((860 : Nat) : Int)) (jl_k20 C hj hI kk ls H locs hl hC hM hS)
    · exact lv_tableIn hX hb dL_law_33 k1 k2 (off := 840) (by rw [k3]; rfl) (by decide : ((33 : Nat) : Int) + 840 = ((873 : Nat) : Int)) (jl_k21 C hj hI kk ls H locs hl hC hM hS)
    · exact lv_tableIn hX hb dL_law_33 k1 k2 (off := 883) (by rw [k3]; rfl) (by decide : ((33 : Nat) : Int) + 883 = ((916 : Nat) : Int)) (jl_k22 C hj hI kk ls H locs hl hC hM hS)
    · exact lv_tableIn hX hb dL_law_33 k1 k2 (off := 926) (by rw [k3]; rfl) (by decide : ((33 : Nat) : Int) + 926 = ((959 : Nat) : Int)) (jl_k23 C hj hI kk ls H locs hl hC hM hS)
    · exact lv_tableIn hX hb dL_law_33 k1 k2 (off := 979) (by rw [k3]; rfl) (by decide : ((33 : Nat) : Int) + 979 = ((1012 : Nat) : Int)) (jl_k24 C hj hI kk ls H locs hl hC hM hS)
    · exact lv_tableIn hX hb dL_law_33 k1 k2 (off := 1002) (by rw [k3]; rfl) (by decide : ((33 : Nat) : Int) + 1002 = ((1035 : Nat) : Int)) (jl_k25 C hj hI kk ls H locs hl hC hM hS)
    · exact lv_tableIn hX hb dL_law_33 k1 k2 (off := 1045) (by rw [k3]; rfl) (by decide : ((33 : Nat) : Int) + 1045 = ((1078 : Nat) : Int)) (jl_k26 C hj hI kk ls H locs hl hC hM hS)
    · exact lv_tableIn hX hb dL_law_33 k1 k2 (off := 1098) (by rw [k3]; rfl) (by decide : ((33 : Nat) : Int) + 1098 = ((1131 : Nat) : Int)) (jl_k27 C hj hI kk ls H locs hl hC hM hS)
    · exact lv_tableIn hX hb dL_law_33 k1 k2 (off := 1141) (by rw [k3]; rfl) (by decide : ((33 : Nat) : Int) + 1141 = ((1174 : Nat) : Int)) (jl_k28 C hj hI kk ls H locs hl hC hM hS)
    · exact lv_tableIn hX hb dL_law_33 k1 k2 (off := 1205) (by rw [k3]; rfl) (by decide : ((33 : Nat) : Int) + 1205 = ((1238 : Nat) : Int)) (jl_k29 C hj hI kk ls H locs hl hC hM hS)
    · exact lv_tableIn hX hb dL_law_33 k1 k2 (off := 1238) (by rw [k3]; rfl) (by decide : ((33 : Nat) : Int) + 1238 = ((1271 : Nat) : Int)) (jl_k30 C hj hI kk ls H locs hl hC hM hS)
    · exact lv_tableIn hX hb dL_law_33 k1 k2 (off := 1261) (by rw [k3]; rfl) (by decide : ((33 : Nat) : Int) + 1261 = ((1294 : Nat) : Int)) (jl_k31 C hj hI kk ls H locs hl hC hM hS)
    · exact lv_tableIn hX hb dL_law_33 k1 k2 (off := 1294) (by rw [k3]; rfl) (by decide : ((33 : Nat) : Int) + 1294 = ((1327 : Nat) : Int)) (jl_k32 C hj hI kk ls H locs hl hC hM hS)
    · exact lv_tableIn hX hb dL_law_33 k1 k2 (off := 1317) (by rw [k3]; rfl) (by decide : ((33 : Nat) : Int) + 1317 = ((1350 : Nat) : Int)) (jl_k33 C hj hI kk ls H locs hl hC hM hS)
    · exact lv_tableIn hX hb dL_law_33 k1 k2 (off := 1351) (by rw [k3]; rfl) (by decide : ((33 : Nat) : Int) + 1351 = ((1384 : Nat) : Int)) (jl_k34 C hj hI kk ls H locs hl hC hM hS)
    · exact lv_tableIn hX hb dL_law_33 k1 k2 (off := 1384) (by rw [k3]; rfl) (by decide : ((33 : Nat) : Int) + 1384 = ((1417 : Nat) : Int)) (jl_k35 C hj hI kk ls H locs hl hC hM hS)
    · exact lv_tableIn hX hb dL_law_33 k1 k2 (off := 1407) (by rw [k3]; rfl) (by decide : ((33 : Nat) : Int) + 1407 = ((1440 : Nat) : Int)) (jl_k36 C hj hI kk ls H locs hl hC hM hS)
    · exact lv_tableIn hX hb dL_law_33 k1 k2 (off := 1430) (by rw [k3]; rfl) (by decide : ((33 : Nat) : Int) + 1430 = ((1463 : Nat) : Int)) (jl_k37 C hj hI kk ls H locs hl hC hM hS)
    · exact lv_tableIn hX hb dL_law_33 k1 k2 (off := 1443) (by rw [k3]; rfl) (by decide : ((33 : Nat) : Int) + 1443 = ((1476 : Nat) : Int)) (jl_k38 C hj hI kk ls H locs hl hC hM hS)
    · exact lv_tableIn hX hb dL_law_33 k1 k2 (off := 1456) (by rw [k3]; rfl) (by decide : ((33 : Nat) : Int) + 1456 = ((1489 : Nat) : Int)) (jl_k39 C hj hI kk ls H locs hl hC hM hS)
    · exact lv_tableIn hX hb dL_law_33 k1 k2 (off := 1499) (by rw [k3]; rfl) (by decide : ((33 : Nat) : Int) + 1499 = ((1532 : Nat) : Int)) (jl_k40 C hj hI kk ls H locs hl hC hM hS)
    · exact lv_tableIn hX hb dL_law_33 k1 k2 (off := 1512) (by rw [k3]; rfl) (by decide : ((33 : Nat) : Int) + 1512 = ((1545 : Nat) : Int)) (jl_k41 C hj hI kk ls H locs hl hC hM hS)
    · exact lv_tableIn hX hb dL_law_33 k1 k2 (off := 1525) (by rw [k3]; rfl) (by decide : ((33 : Nat) : Int) + 1525 = ((1558 : Nat) : Int)) (jl_k42 C hj hI kk ls H locs hl hC hM hS)
theorem jl_step (C : jl_C E ac am p s m meth c b L xs) (hI : Inv Mc Mm) (hj4 : j ≤ 3072) (kk : j + 6 ≤ L → ∀ C' M', Inv C' M' → jl_W E ac am p e s m below meth c b 18 (j + 6) [] C' M') : jl_W E ac am p e s m below meth c b 18 j [] Mc Mm := by
  have hX := C.at0.1
  have hb := C.at0.2.1
  have hL := C.hL
  intro ls H locs hl hC hM hS
  refine lv_iload_n hX hb dL_law_18 rfl (lv_at hl 3 rfl) ?_
  refine lv_aload_n hX hb dL_law_19 rfl (lv_at hl 0 rfl) ?_
  refine va_slen (A := fun q => s.heap.size ≤ q) hX hb C.at0.2.2.2.2.2.2.1 C.at0.2.2.2.2.2.2.2.1 (Nat.not_le.mpr C.at0.2.2.2.2.2.2.2.1) hS dL_law_20 ?_
  refine lv_bipush hX hb dL_law_21 rfl ?_
  refine lv_isub hX hb dL_law_23 ?_
  have hc := jl_cmp (L := L) (j := j) hL (by omega)
  refine lv_icmp_gt hX hb dL_law_24 (by decide : ((24 : Nat) : Int) + 1563 = ((1587 : Nat) : Int)) (fun _ => ?_) (fun h => ?_)
  · refine lv_iconst hX hb dL_law_1587 (by decide : Int32.ofInt 1 = 1) ?_
    exact va_forget hS.2.2 (lw_ret hX hb C.at0.2.2.1 C.at0.2.2.2.2.2.2.2.2.1 dL_law_1588)
  · have h6 : j + 6 ≤ L := Decidable.not_not.mp (fun z => h (hc.mpr z))
    refine lv_aload_n hX hb dL_law_27 rfl (lv_at hl 0 rfl) ?_
    refine lv_iload_n hX hb dL_law_28 rfl (lv_at hl 3 rfl) ?_
    refine va_sld (A := fun q => s.heap.size ≤ q) hX hb C.at0.2.2.2.2.2.2.1 C.at0.2.2.2.2.2.2.2.1 (Nat.not_le.mpr C.at0.2.2.2.2.2.2.2.1) hS (vp_in_nI (by omega) (by omega)) dL_law_29 ?_
    refine lv_bipush hX hb dL_law_30 rfl ?_
    refine lv_iand hX hb dL_law_32 ?_
    obtain ⟨t, ht, e⟩ := pk_andE (xs (nI j).toNatClampNeg) (m := (Int8.ofInt 63).toInt32) 6 (by decide)
    refine jl_sw C h6 hI (fun C' M' hI' => ?_) e (by omega) ls H locs hl hC hM hS
    intro ls H locs hl hC hM hS
    refine lv_iinc hX hb dL_law_1581 hl (k := 3) rfl (by rw [show Int32.ofInt 6 = nI 6 from by decide, nI_add]) (by decide) rfl (fun ls' hl' => ?_)
    refine lv_goto hX hb dL_law_1584 (by decide : ((1584 : Nat) : Int) + (-1566) = ((18 : Nat) : Int)) ?_
    exact kk h6 C' M' hI' ls' H locs (lv_sub hl' [1, 2, 3, 0] rfl) hC hM hS
end
theorem jl_loop {E : jm_Ev} {ac am : Nat → Nat → Nat} {p : Program} {e : Env} {s : State} {m : MethodId} {below : List Frame} {meth : Method} {c : Code} {b L : Nat} {xs : Nat → Int32} (C : jl_C E ac am p s m meth c b L xs) : ∀ (n j : Nat) (Mc Mm : jm_M), L < j + n → j ≤ 3072 → Inv Mc Mm → jl_W E ac am p e s m below meth c b 18 j [] Mc Mm := by
  have hL := C.hL
  intro n
  induction n with
  | zero =>
    intro j Mc Mm h hj hI
    exact jl_step C hI hj (fun h6 => absurd h6 (by omega))
  | succ n ih =>
    intro j Mc Mm h hj hI
    exact jl_step C hI hj (fun h6 C' M' hI' => ih (j + 6) C' M' (by omega) (by omega) hI')
