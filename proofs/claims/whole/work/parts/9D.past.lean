section
variable {E : jm_Ev} {p : Program} {e : Env} {R : Room} {s : State} {m : MethodId} {args : Array Value} {below : List Frame} {meth : Method} {c : Code} {Q : State → Prop} {own : String} {cc : ByteArray} {nL a ci pc : Nat} {lv : List (Nat × Value)} {st fs : List Value} {ws : va_W} {cells slots : Nat}
theorem jn_newq (F : jn_F E own cc nL p s m args meth c) {n index : Nat} (hn : n ≤ 4096) (hd : decode cc pc = .ok (.anewarray index, 3)) (hcl : Cond.classLink own index "WeighedInBooks$Town" ∈ jm_tb) (hc : cells + 1 ≤ R.cells) (hs : slots + n ≤ R.slots) (kk : ∀ q : Nat, jn_W E p e R s m args below meth c Q a ci nL (pc + 3) lv (.ref q :: st) fs (ws ++ [(q, .inl (jm_cT E, n, .inr (.inr (.inr (.inr (fun _ => none))))))]) (cells + 1) (slots + n)) : jn_W E p e R s m args below meth c Q a ci nL pc lv (.int (nI n) :: st) fs ws cells slots := by
  obtain ⟨⟨hx, hb, hml, hown, hts⟩, hr, hlk, hin, hK, hN⟩ := F
  intro ls H locs hl hP hD hS
  refine va_newq (N' := n) hx hb hown (hts _ hcl) hN.2.2.2.2.2.2.2.2 hK hP hD hS (fun q h => Or.inr h) (nI_pos (by omega)) (nI_clamp (by omega)) (by omega) hc hs hd (fun q cA H1 hK1 hP1 hD1 hS1 => ?_)
  obtain ⟨_, _, -, -, -, e1⟩ := (hK1.2 2 (cA, .object "WeighedInBooks$Town") rfl).2
  obtain ⟨_, _, -, -, -, e2⟩ := (hK.2 1 (jm_cT E, .object "WeighedInBooks$Town") rfl).2
  have e3 : cA = jm_cT E := Option.some.inj (e1.symm.trans e2)
  subst e3
  exact kk q ls H1 locs hl hP1 hD1 hS1
theorem jn_get (F : jn_F E own cc nL p s m args meth c) {index k : Nat} {ty : FieldType} {fin : Bool} {v : Value} (hf : jn_Fi own index ci k ty fin) (hd : decode cc pc = .ok (.getfield index, 3)) (hv : fs[k]? = some v) (kk : jn_W E p e R s m args below meth c Q a ci nL (pc + 3) lv (v :: st) fs ws cells slots) : jn_W E p e R s m args below meth c Q a ci nL pc lv (.ref a :: st) fs ws cells slots := by
  obtain ⟨⟨hx, hb, hml, hown, hts⟩, hr, hlk, hin, hK, hN⟩ := F
  obtain ⟨C, T, N, ty0, f1, f2, f3, f4, f5, f6, f7, f8, f9⟩ := hf
  intro ls H locs hl hP hD hS
  exact va_get hx hb hts f3 hown hK hP 0 rfl f1 k f2 (hts _ f4) (fun _ h => h) hv hd (kk ls H locs hl hP hD hS)
theorem jn_ast (F : jn_F E own cc nL p s m args meth c) {k n0 i x : Nat} {f : Nat → Option Nat} {ws1 ws2 : va_W} {vs : List Value} (hi : i < n0) (hn0 : n0 ≤ 4096) (hd : decode cc pc = .ok (.aastore, 1)) (kk : jn_W E p e R s m args below meth c Q a ci nL (pc + 1) lv st fs ((k, .inl (jm_cT E, n0, .inr (.inr (.inr (.inr (va_up f i (some x))))))) :: (ws1 ++ (x, .inr (5, vs)) :: ws2)) cells slots) : jn_W E p e R s m args below meth c Q a ci nL pc lv (.ref x :: .int (nI i) :: .ref k :: st) fs ((k, .inl (jm_cT E, n0, .inr (.inr (.inr (.inr f))))) :: (ws1 ++ (x, .inr (5, vs)) :: ws2)) cells slots := by
  obtain ⟨⟨hx, hb, hml, hown, hts⟩, hr, hlk, hin, hK, hN⟩ := F
  intro ls H locs hl hP hD hS
  have hv : ((a, (Sum.inr (ci, fs) : va_E)) :: (k, .inl (jm_cT E, n0, .inr (.inr (.inr (.inr f))))) :: (ws1 ++ (x, .inr (5, vs)) :: ws2))[ws1.length + 2]? = some (x, .inr (5, vs)) := by
    rw [List.getElem?_cons_succ, List.getElem?_cons_succ]
    simp
  have hup : (nI i).toNatClampNeg = i := nI_clamp (by omega)
  refine va_astq hx hb hK hP hD hS 1 1 (ws1.length + 2) 5 (r := (RX7, TX7, 15)) rfl rfl hv rfl (vp_in_nI hi (by omega)) hd (fun H1 locs1 hP1 hD1 hS1 => ?_)
  rw [hup] at hP1 hD1
  exact kk ls H1 locs1 hl hP1 hD1 hS1
end
def jn_Pw (E : jm_Ev) (k n : Nat) (ad : Nat → Nat → Nat) : va_W := (k, .inl (jm_cT E, 8, .inr (.inr (.inr (.inr (fun i => if i < n then some (ad (5 + i) 0) else none)))))) :: jm_ws (jl_E E ad) (jn_LP n) jn_Z
theorem jn_LPs (n : Nat) : jn_LP (n + 1) = jn_LP n ++ jn_LT (5 + n) := by
  simp [jn_LP, List.range_succ]
theorem jn_Pnext (E : jm_Ev) (k : Nat) (ad ad2 : Nat → Nat → Nat) {n : Nat} (hn : n < 8) : ((k, (Sum.inl (jm_cT E, 8, .inr (.inr (.inr (.inr (va_up (fun i => if i < n then some (ad (5 + i) 0) else none) n (some (ad2 (5 + n) 0))))))) : va_E)) :: (jm_ws (jl_E E ad) (jn_LP n) jn_Z ++ jm_ws (jl_E E ad2) (jn_LT (5 + n)) jn_Z)) = jn_Pw E k (n + 1) (fun t j => if t = 5 + n then ad2 t j else ad t j) := by
  have e1 : jm_ws (jl_E E ad) (jn_LP n) jn_Z = jm_ws (jl_E E (fun t j => if t = 5 + n then ad2 t j else ad t j)) (jn_LP n) jn_Z := by
    refine jn_cong (fun t => t != 5 + n) ?_ (fun t j h => ?_) (fun _ _ _ => rfl)
    · rcases (show n = 0 ∨ n = 1 ∨ n = 2 ∨ n = 3 ∨ n = 4 ∨ n = 5 ∨ n = 6 ∨ n = 7 by omega) with rfl | rfl | rfl | rfl | rfl | rfl | rfl | rfl <;> decide +kernel
    · have h1 : ¬ t = 5 + n := by simpa using h
      rw [if_neg h1]
  have e2 : jm_ws (jl_E E ad2) (jn_LT (5 + n)) jn_Z = jm_ws (jl_E E (fun t j => if t = 5 + n then ad2 t j else ad t j)) (jn_LT (5 + n)) jn_Z := by
    refine jn_cong (fun t => t == 5 + n) ?_ (fun t j h => ?_) (fun _ _ _ => rfl)
    · rcases (show n = 0 ∨ n = 1 ∨ n = 2 ∨ n = 3 ∨ n = 4 ∨ n = 5 ∨ n = 6 ∨ n = 7 by omega) with rfl | rfl | rfl | rfl | rfl | rfl | rfl | rfl <;> decide +kernel
    · have h1 : t = 5 + n := by simpa using h
      rw [if_pos h1]
  have e3 : va_up (fun i => if i < n then some (ad (5 + i) 0) else none) n (some (ad2 (5 + n) 0)) = (fun i => if i < n + 1 then some ((fun t j => if t = 5 + n then ad2 t j else ad t j) (5 + i) 0) else none) := by
    funext i
    show (if i = n then some (ad2 (5 + n) 0) else if i < n then some (ad (5 + i) 0) else none) = if i < n + 1 then some (if 5 + i = 5 + n then ad2 (5 + i) 0 else ad (5 + i) 0) else none
    by_cases h : i = n
    · subst h
      rw [if_pos rfl, if_pos (Nat.lt_succ_self _), if_pos rfl]
    · rw [if_neg h]
      by_cases h1 : i < n
      · rw [if_pos h1, if_pos (by omega), if_neg (by omega)]
      · rw [if_neg h1, if_neg (by omega)]
  unfold jn_Pw
  rw [e1, e2, e3, jn_LPs]
  unfold jm_ws
  rw [List.map_append]
theorem jn_Pend (E : jm_Ev) (a k : Nat) (ad : Nat → Nat → Nat) : ((a, (Sum.inr (3, [.ref k, .int 7, .int 0]) : va_E)) :: jn_Pw E k 8 ad) = jm_ws (jl_E E (fun t j => if t = 13 then (if j = 1 then k else a) else ad t j)) jn_LP8 jn_M0 := by
  have e1 : jm_ws (jl_E E ad) (jn_LP 8) jn_Z = jm_ws (jl_E E (fun t j => if t = 13 then (if j = 1 then k else a) else ad t j)) (jn_LP 8) jn_M0 := by
    refine jn_cong (fun t => t != 13) (by decide +kernel) (fun t j h => ?_) (fun t j h => ?_)
    · have h1 : ¬ t = 13 := by simpa using h
      rw [if_neg h1]
    · have h1 : ¬ t = 13 := by simpa using h
      funext k
      show (0 : Int32) = if t = 13 ∧ j = 0 ∧ k = 1 then 7 else 0
      rw [if_neg (fun z => h1 z.1)]
  have e2 : (fun i => if i < 8 then some (ad (5 + i) 0) else none) = (fun i => (([(5, 0), (6, 0), (7, 0), (8, 0), (9, 0), (10, 0), (11, 0), (12, 0)] : List (Nat × Nat))[i]?).map (fun r => (fun t j => if t = 13 then (if j = 1 then k else a) else ad t j) r.1 r.2)) := by
    funext i
    by_cases h : i < 8
    · rcases (show i = 0 ∨ i = 1 ∨ i = 2 ∨ i = 3 ∨ i = 4 ∨ i = 5 ∨ i = 6 ∨ i = 7 by omega) with rfl | rfl | rfl | rfl | rfl | rfl | rfl | rfl <;> rfl
    · rw [if_neg h, List.getElem?_eq_none (by simp; omega)]
      rfl
  unfold jn_Pw
  rw [e1, e2]
  rfl
