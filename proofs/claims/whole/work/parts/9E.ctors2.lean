theorem jn_Ploop {E : jm_Ev} {p : Program} {e : Env} {s : State} {m : MethodId} {args : Array Value} {below : List Frame} {meth : Method} {c : Code} {a k : Nat} (F : jn_F E yX4_init.cls cX4_init 2 p s m args meth c) : ∀ (r n : Nat) (ad : Nat → Nat → Nat) (cells slots : Nat), n + r = 8 → cells + 12 * r = 97 → slots + 105 * r = 848 → jn_W E p e ({ frames := 2, cells := 97, slots := 848, locals := 32 } : Room) s m args below meth c (MQ below (jn_Qc E jn_LP8 jn_M0 13 a) args s 97 848 (jn_A a s.heap.size)) a 3 2 21 [(0, .ref a), (1, .int (nI n))] [] [.ref k, .int 7, .int 0] (jn_Pw E k n ad) cells slots := by
  intro r
  induction r with
  | zero =>
    intro n ad cells slots hn hc hs
    have e8 : n = 8 := by omega
    subst e8
    have ec : cells = 97 := by omega
    subst ec
    have es : slots = 848 := by omega
    subst es
    intro ls H locs hl hP hD hS
    have hx := F.1.1
    have hb := F.1.2.1
    refine lv_iload_n hx hb dX4_init_21 rfl (lv_at hl 1 rfl) ?_
    refine lv_bipush hx hb dX4_init_22 (by decide : (Int8.ofInt 8).toInt32 = nI 8) ?_
    refine lv_icmp_ge hx hb dX4_init_24 (by decide : ((24 : Nat) : Int) + 22 = ((46 : Nat) : Int)) (fun _ => ?_) (fun h => absurd (Int32.le_refl _) h)
    exact jn_ret (a := a) (k0 := 13) F dX4_init_46 (fun t j => if t = 13 then (if j = 1 then k else a) else ad t j) rfl (jn_Pend E a k ad) ls H locs hl hP hD hS
  | succ r ih =>
    intro n ad cells slots hn hc hs
    have h8 : n < 8 := by omega
    intro ls H locs hl hP hD hS
    have hx := F.1.1
    have hb := F.1.2.1
    refine lv_iload_n hx hb dX4_init_21 rfl (lv_at hl 1 rfl) ?_
    refine lv_bipush hx hb dX4_init_22 (by decide : (Int8.ofInt 8).toInt32 = nI 8) ?_
    refine lv_icmp_ge hx hb dX4_init_24 (by decide : ((24 : Nat) : Int) + 22 = ((46 : Nat) : Int)) (fun h => absurd h (nI_ge h8 (by omega))) (fun _ => ?_)
    refine jn_al0 F dX4_init_27 rfl ?_ ls H locs hl hP hD hS
    refine jn_get F jFi_X4_11 dX4_init_28 rfl ?_
    intro ls H locs hl hP hD hS
    refine lv_iload_n hx hb dX4_init_31 rfl (lv_at hl 1 rfl) ?_
    refine jn_new F jnK_X4_9 dX4_init_32 (by show cells + 1 ≤ 97; omega) (by show slots + 15 ≤ 848; omega) (fun q => ?_) ls H locs hl hP hD hS
    refine jn_dup F dX4_init_35 ?_
    refine jn_cinit F jnC_X4_21 (jn_cX7 E (5 + n)) ⟨Nat.le_of_ble_eq_true rfl, Nat.le_of_ble_eq_true rfl⟩ ⟨by show cells + 1 + 11 ≤ 97; omega, by show slots + 15 + 90 ≤ 848; omega⟩ (by simp [Value.category]) dX4_init_36 (fun ad2 h2 => ?_)
    subst h2
    refine jn_ast (ws1 := jm_ws (jl_E E ad) (jn_LP n) jn_Z) F h8 (by omega) dX4_init_39 ?_
    intro ls H locs hl hP hD hS
    refine lv_iinc hx hb dX4_init_40 hl (k := 1) rfl (by rw [show Int32.ofInt 1 = nI 1 from by decide, nI_add]) (by decide) rfl (fun ls' hl' => ?_)
    refine lv_goto hx hb dX4_init_43 (by decide : ((43 : Nat) : Int) + (-22) = ((21 : Nat) : Int)) ?_
    have hI := ih (n + 1) (fun t j => if t = 5 + n then ad2 t j else ad t j) (cells + 1 + 11) (slots + 15 + 90) (by omega) (by omega) (by omega)
    rw [← jn_Pnext E k ad ad2 h8] at hI
    exact hI ls' H locs (lv_sub hl' [1, 0] rfl) hP hD hS
theorem jn_cX4 (E : jm_Ev) : jn_Ct E yX4_init cX4_init 2 2 32 97 848 3 jn_zX4 jn_LP8 jn_M0 13 := by
  refine jn_enter (by decide) rfl (by decide) dX4_init_0 dX4_init_1 tw_189 tw_101 tw_102 (by decide) (by decide) (fun p e s m args below meth c a F => ?_)
  refine jn_al0 F dX4_init_4 rfl (jn_pushn F (n := 8) (len := 2) (Or.inr (Or.inl ⟨_, dX4_init_5, by decide, rfl⟩)) (jn_newq F (by decide) dX4_init_7 tw_190 (Nat.le_of_ble_eq_true rfl) (Nat.le_of_ble_eq_true rfl) (fun k => jn_put F jFi_X4_11 dX4_init_10 rfl rfl (Nat.le_of_ble_eq_true rfl) ?_)))
  refine jn_al0 F dX4_init_13 rfl (jn_pushn F (n := 7) (len := 2) (Or.inr (Or.inl ⟨_, dX4_init_14, by decide, rfl⟩)) (jn_putv F jFi_X4_17 dX4_init_16 rfl rfl (Nat.le_of_ble_eq_true rfl) ?_))
  intro ls H locs hl hP hD hS
  have hx := F.1.1
  have hb := F.1.2.1
  refine lv_iconst hx hb dX4_init_19 (by decide : Int32.ofInt 0 = nI 0) ?_
  refine lv_istore_n hx hb dX4_init_20 rfl hl (by decide) rfl (fun ls' hl' => ?_)
  exact jn_Ploop F 8 0 (fun _ _ => 0) 1 8 rfl rfl rfl ls' H locs (lv_sub hl' [1, 0] rfl) hP hD hS
def jn_adW (a q8 q9 q10 : Nat) (ad1 ad2 ad3 ad4 ad5 ad6 ad7 : Nat → Nat → Nat) : Nat → Nat → Nat := fun t j => if t = 0 then (match j with | 0 => a | 9 => q8 | 10 => q9 | 12 => q10 | _ => 0) else if t = 1 then ad1 t j else if t = 2 then ad3 t j else if t = 3 ∨ t = 14 then ad4 t j else if t = 4 ∨ t = 15 then ad5 t j else if t = 16 then ad6 t j else if t = 17 then ad7 t j else ad2 t j
theorem jn_W1 (E : jm_Ev) (a q8 q9 q10 : Nat) (ad1 ad2 ad3 ad4 ad5 ad6 ad7 : Nat → Nat → Nat) : jm_ws (jl_E E ad1) (jn_LT 1) jn_Z = jm_ws (jl_E E (jn_adW a q8 q9 q10 ad1 ad2 ad3 ad4 ad5 ad6 ad7)) (jn_LT 1) jn_M0 := by
  refine jn_cong (fun t => t == 1) (by decide +kernel) (fun t j h => ?_) (fun t j h => ?_)
  · simp at h
    unfold jn_adW
    repeat (first | rw [if_pos (by omega)] | rw [if_neg (by omega)])
  · simp at h
    funext k
    show (0 : Int32) = if t = 13 ∧ j = 0 ∧ k = 1 then 7 else 0
    rw [if_neg (fun z => by omega)]
theorem jn_W2 (E : jm_Ev) (a q8 q9 q10 : Nat) (ad1 ad2 ad3 ad4 ad5 ad6 ad7 : Nat → Nat → Nat) : jm_ws (jl_E E ad2) (jn_LP8) jn_M0 = jm_ws (jl_E E (jn_adW a q8 q9 q10 ad1 ad2 ad3 ad4 ad5 ad6 ad7)) (jn_LP8) jn_M0 := by
  refine jn_cong (fun t => t == 13 || (decide (5 ≤ t) && decide (t ≤ 12))) (by decide +kernel) (fun t j h => ?_) (fun t j h => ?_)
  · simp at h
    unfold jn_adW
    repeat (first | rw [if_pos (by omega)] | rw [if_neg (by omega)])
  · rfl
theorem jn_W3 (E : jm_Ev) (a q8 q9 q10 : Nat) (ad1 ad2 ad3 ad4 ad5 ad6 ad7 : Nat → Nat → Nat) : jm_ws (jl_E E ad3) (jn_LT 2) jn_Z = jm_ws (jl_E E (jn_adW a q8 q9 q10 ad1 ad2 ad3 ad4 ad5 ad6 ad7)) (jn_LT 2) jn_M0 := by
  refine jn_cong (fun t => t == 2) (by decide +kernel) (fun t j h => ?_) (fun t j h => ?_)
  · simp at h
    unfold jn_adW
    repeat (first | rw [if_pos (by omega)] | rw [if_neg (by omega)])
  · simp at h
    funext k
    show (0 : Int32) = if t = 13 ∧ j = 0 ∧ k = 1 then 7 else 0
    rw [if_neg (fun z => by omega)]
theorem jn_W4 (E : jm_Ev) (a q8 q9 q10 : Nat) (ad1 ad2 ad3 ad4 ad5 ad6 ad7 : Nat → Nat → Nat) : jm_ws (jl_E E ad4) (jn_LS) jn_Z = jm_ws (jl_E E (jn_adW a q8 q9 q10 ad1 ad2 ad3 ad4 ad5 ad6 ad7)) (jn_LS) jn_M0 := by
  refine jn_cong (fun t => t == 3 || t == 14) (by decide +kernel) (fun t j h => ?_) (fun t j h => ?_)
  · simp at h
    unfold jn_adW
    repeat (first | rw [if_pos (by omega)] | rw [if_neg (by omega)])
  · simp at h
    funext k
    show (0 : Int32) = if t = 13 ∧ j = 0 ∧ k = 1 then 7 else 0
    rw [if_neg (fun z => by omega)]
theorem jn_W5 (E : jm_Ev) (a q8 q9 q10 : Nat) (ad1 ad2 ad3 ad4 ad5 ad6 ad7 : Nat → Nat → Nat) : jm_ws (jl_E E ad5) (jn_LF) jn_Z = jm_ws (jl_E E (jn_adW a q8 q9 q10 ad1 ad2 ad3 ad4 ad5 ad6 ad7)) (jn_LF) jn_M0 := by
  refine jn_cong (fun t => t == 4 || t == 15) (by decide +kernel) (fun t j h => ?_) (fun t j h => ?_)
  · simp at h
    unfold jn_adW
    repeat (first | rw [if_pos (by omega)] | rw [if_neg (by omega)])
  · simp at h
    funext k
    show (0 : Int32) = if t = 13 ∧ j = 0 ∧ k = 1 then 7 else 0
    rw [if_neg (fun z => by omega)]
theorem jn_W6 (E : jm_Ev) (a q8 q9 q10 : Nat) (ad1 ad2 ad3 ad4 ad5 ad6 ad7 : Nat → Nat → Nat) : jm_ws (jl_E E ad6) (jn_LB) jn_Z = jm_ws (jl_E E (jn_adW a q8 q9 q10 ad1 ad2 ad3 ad4 ad5 ad6 ad7)) (jn_LB) jn_M0 := by
  refine jn_cong (fun t => t == 16) (by decide +kernel) (fun t j h => ?_) (fun t j h => ?_)
  · simp at h
    unfold jn_adW
    repeat (first | rw [if_pos (by omega)] | rw [if_neg (by omega)])
  · simp at h
    funext k
    show (0 : Int32) = if t = 13 ∧ j = 0 ∧ k = 1 then 7 else 0
    rw [if_neg (fun z => by omega)]
theorem jn_W7 (E : jm_Ev) (a q8 q9 q10 : Nat) (ad1 ad2 ad3 ad4 ad5 ad6 ad7 : Nat → Nat → Nat) : jm_ws (jl_E E ad7) (jn_LK) jn_Z = jm_ws (jl_E E (jn_adW a q8 q9 q10 ad1 ad2 ad3 ad4 ad5 ad6 ad7)) (jn_LK) jn_M0 := by
  refine jn_cong (fun t => t == 17) (by decide +kernel) (fun t j h => ?_) (fun t j h => ?_)
  · simp at h
    unfold jn_adW
    repeat (first | rw [if_pos (by omega)] | rw [if_neg (by omega)])
  · simp at h
    funext k
    show (0 : Int32) = if t = 13 ∧ j = 0 ∧ k = 1 then 7 else 0
    rw [if_neg (fun z => by omega)]
theorem jn_cX8 (E : jm_Ev) : jn_Ct E yX8_init cX8_init 1 3 60 161 1519 6 jn_zX8 jn_LW jn_M0 0 := by
  refine jn_enter (by decide) rfl (by decide) dX8_init_0 dX8_init_1 tw_100 tw_101 tw_102 (by decide) (by decide) (fun p e s m args below meth c a F => ?_)
  refine jn_obj F rfl dX8_init_4 dX8_init_5 dX8_init_8 dX8_init_9 dX8_init_12 jnK_X8_7 jnC_X8_9 jFi_X8_10 (jn_cX7 E 1) (Nat.le_of_ble_eq_true rfl) ⟨Nat.le_of_ble_eq_true rfl, Nat.le_of_ble_eq_true rfl⟩ ⟨Nat.le_of_ble_eq_true rfl, Nat.le_of_ble_eq_true rfl⟩ (fun q1 ad1 h1 => ?_)
  refine jn_obj F rfl dX8_init_15 dX8_init_16 dX8_init_19 dX8_init_20 dX8_init_23 jnK_X8_16 jnC_X8_18 jFi_X8_19 (jn_cX4 E) (Nat.le_of_ble_eq_true rfl) ⟨Nat.le_of_ble_eq_true rfl, Nat.le_of_ble_eq_true rfl⟩ ⟨Nat.le_of_ble_eq_true rfl, Nat.le_of_ble_eq_true rfl⟩ (fun q2 ad2 h2 => ?_)
  refine jn_obj F rfl dX8_init_26 dX8_init_27 dX8_init_30 dX8_init_31 dX8_init_34 jnK_X8_7 jnC_X8_9 jFi_X8_23 (jn_cX7 E 2) (Nat.le_of_ble_eq_true rfl) ⟨Nat.le_of_ble_eq_true rfl, Nat.le_of_ble_eq_true rfl⟩ ⟨Nat.le_of_ble_eq_true rfl, Nat.le_of_ble_eq_true rfl⟩ (fun q3 ad3 h3 => ?_)
  refine jn_obj F rfl dX8_init_37 dX8_init_38 dX8_init_41 dX8_init_42 dX8_init_45 jnK_X8_26 jnC_X8_28 jFi_X8_29 (jn_cX5 E) (Nat.le_of_ble_eq_true rfl) ⟨Nat.le_of_ble_eq_true rfl, Nat.le_of_ble_eq_true rfl⟩ ⟨Nat.le_of_ble_eq_true rfl, Nat.le_of_ble_eq_true rfl⟩ (fun q4 ad4 h4 => ?_)
  refine jn_obj F rfl dX8_init_48 dX8_init_49 dX8_init_52 dX8_init_53 dX8_init_56 jnK_X8_33 jnC_X8_35 jFi_X8_36 (jn_cX2 E) (Nat.le_of_ble_eq_true rfl) ⟨Nat.le_of_ble_eq_true rfl, Nat.le_of_ble_eq_true rfl⟩ ⟨Nat.le_of_ble_eq_true rfl, Nat.le_of_ble_eq_true rfl⟩ (fun q5 ad5 h5 => ?_)
  refine jn_obj F rfl dX8_init_59 dX8_init_60 dX8_init_63 dX8_init_64 dX8_init_67 jnK_X8_40 jnC_X8_42 jFi_X8_43 (jn_cX0 E) (Nat.le_of_ble_eq_true rfl) ⟨Nat.le_of_ble_eq_true rfl, Nat.le_of_ble_eq_true rfl⟩ ⟨Nat.le_of_ble_eq_true rfl, Nat.le_of_ble_eq_true rfl⟩ (fun q6 ad6 h6 => ?_)
  refine jn_obj F rfl dX8_init_70 dX8_init_71 dX8_init_74 dX8_init_75 dX8_init_78 jnK_X8_47 jnC_X8_49 jFi_X8_50 (jn_cX1 E) (Nat.le_of_ble_eq_true rfl) ⟨Nat.le_of_ble_eq_true rfl, Nat.le_of_ble_eq_true rfl⟩ ⟨Nat.le_of_ble_eq_true rfl, Nat.le_of_ble_eq_true rfl⟩ (fun q7 ad7 h7 => ?_)
  refine jn_arr F (n := 10) (len := 2) (pc' := 89) dX8_init_81 (Or.inr (Or.inl ⟨_, dX8_init_82, by decide, rfl⟩)) dX8_init_84 dX8_init_86 rfl jFi_X8_54 rfl tw_183 (Nat.le_of_ble_eq_true rfl) (Nat.le_of_ble_eq_true rfl) (Nat.le_of_ble_eq_true rfl) (Nat.le_of_ble_eq_true rfl) (fun q8 => ?_)
  refine jn_arr F (n := 12) (len := 2) (pc' := 97) dX8_init_89 (Or.inr (Or.inl ⟨_, dX8_init_90, by decide, rfl⟩)) dX8_init_92 dX8_init_94 rfl jFi_X8_58 rfl tw_183 (Nat.le_of_ble_eq_true rfl) (Nat.le_of_ble_eq_true rfl) (Nat.le_of_ble_eq_true rfl) (Nat.le_of_ble_eq_true rfl) (fun q9 => ?_)
  refine jn_arr F (n := 7) (len := 2) (pc' := 105) dX8_init_97 (Or.inr (Or.inl ⟨_, dX8_init_98, by decide, rfl⟩)) dX8_init_100 dX8_init_102 rfl jFi_X8_61 rfl tw_183 (Nat.le_of_ble_eq_true rfl) (Nat.le_of_ble_eq_true rfl) (Nat.le_of_ble_eq_true rfl) (Nat.le_of_ble_eq_true rfl) (fun q10 => ?_)
  subst h1 h2 h3 h4 h5 h6 h7
  refine jn_ret F dX8_init_105 (jn_adW a q8 q9 q10 ad1 ad2 ad3 ad4 ad5 ad6 ad7) rfl ?_
  rw [jn_W1 E a q8 q9 q10 ad1 ad2 ad3 ad4 ad5 ad6 ad7, jn_W2 E a q8 q9 q10 ad1 ad2 ad3 ad4 ad5 ad6 ad7, jn_W3 E a q8 q9 q10 ad1 ad2 ad3 ad4 ad5 ad6 ad7, jn_W4 E a q8 q9 q10 ad1 ad2 ad3 ad4 ad5 ad6 ad7, jn_W5 E a q8 q9 q10 ad1 ad2 ad3 ad4 ad5 ad6 ad7, jn_W6 E a q8 q9 q10 ad1 ad2 ad3 ad4 ad5 ad6 ad7, jn_W7 E a q8 q9 q10 ad1 ad2 ad3 ad4 ad5 ad6 ad7]
  show _ = (_, _) :: List.map _ _
  simp only [List.map_append]
  rfl
