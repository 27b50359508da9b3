def jn_F (E : jm_Ev) (own : String) (cc : ByteArray) (nL : Nat) (p : Program) (s : State) (m : MethodId) (args : Array Value) (meth : Method) (c : Code) : Prop := CallFix p m c cc nL s args jm_tb own ∧ meth.sig.returnType = none ∧ meth.locks = false ∧ meth.name = "<init>" ∧ va_K (jm_D E) jm_cl (jm_tys E) s ∧ jn_N s
def jn_W (E : jm_Ev) (p : Program) (e : Env) (R : Room) (s : State) (m : MethodId) (args : Array Value) (below : List Frame) (meth : Method) (c : Code) (Q : State → Prop) (a ci nL pc : Nat) (lv : List (Nat × Value)) (st fs : List Value) (ws : va_W) (cells slots : Nat) : Prop :=
  ∀ (ls : Array Slot) (H : Heap) (locs : List Loc), lv_has ls nL lv → va_P (jm_D E) jm_cl ((a, .inr (ci, fs)) :: ws) H → va_D (jn_A a s.heap.size) ((a, .inr (ci, fs)) :: ws) → va_S (jn_A a s.heap.size) s.heap H locs → W p (jm_l E) e R s m args below meth c H locs cells slots Q (F0 m pc ls st)
def jn_Fi (own : String) (index ci k : Nat) (ty : FieldType) (fin : Bool) : Prop := ∃ (C : String) (T : u_T) (N : Nat) (ty0 : Nat → FieldType), jm_cl[ci]? = some (C, T, N) ∧ k < N ∧ (∀ w ∈ u_ws C T N, w ∈ jm_tb) ∧ Cond.fieldLink own index (T k).1 (T k).2.1 (T k).2.2.1 ∈ jm_tb ∧ (∀ k, k < N → parseFieldDescriptor (T k).2.2.1 = some (ty0 k)) ∧ (∀ a, a < N → ∀ b, b < N → a ≠ b → (T a).2.1 ≠ (T b).2.1) ∧ (T k).2.2.2 = fin ∧ (T k).1 = own ∧ parseFieldDescriptor (T k).2.2.1 = some ty
def jn_K (own : String) (index ci N : Nat) (fs : List Value) : Prop := ∃ (C : String) (T : u_T) (ty0 : Nat → FieldType), jm_cl[ci]? = some (C, T, N) ∧ (∀ w ∈ u_ws C T N, w ∈ jm_tb) ∧ (∀ k, k < N → parseFieldDescriptor (T k).2.2.1 = some (ty0 k)) ∧ Cond.classLink own index C ∈ jm_tb ∧ Cond.instantiable C N ∈ jm_tb ∧ Cond.initialized C ∈ jm_tb ∧ ∀ j, j < N → defaultValue (ty0 j) = vp_V fs j
def jn_push (cc : ByteArray) (pc n len : Nat) : Prop := (∃ q : Int, decode cc pc = .ok (.iconst q, 1) ∧ Int32.ofInt q = nI n ∧ len = 1) ∨ (∃ q : Int, decode cc pc = .ok (.bipush q, 2) ∧ (Int8.ofInt q).toInt32 = nI n ∧ len = 2) ∨ ∃ q : Int, decode cc pc = .ok (.sipush q, 3) ∧ (Int16.ofInt q).toInt32 = nI n ∧ len = 3
section
variable {E : jm_Ev} {p : Program} {e : Env} {R : Room} {s : State} {m : MethodId} {args : Array Value} {below : List Frame} {meth : Method} {c : Code} {Q : State → Prop} {own : String} {cc : ByteArray} {nL a ci pc : Nat} {lv : List (Nat × Value)} {st fs : List Value} {ws : va_W} {cells slots : Nat}
theorem jn_al0 (F : jn_F E own cc nL p s m args meth c) (hd : decode cc pc = .ok (.aload_n 0, 1)) (h0 : lv[0]? = some (0, .ref a)) (kk : jn_W E p e R s m args below meth c Q a ci nL (pc + 1) lv (.ref a :: st) fs ws cells slots) : jn_W E p e R s m args below meth c Q a ci nL pc lv st fs ws cells slots := by
  obtain ⟨⟨hx, hb, hml, hown, hts⟩, hr, hlk, hin, hK, hN⟩ := F
  intro ls H locs hl hP hD hS
  exact lv_aload_n hx hb hd rfl (lv_at hl 0 h0) (kk ls H locs hl hP hD hS)
theorem jn_pushn (F : jn_F E own cc nL p s m args meth c) {n len : Nat} (hd : jn_push cc pc n len) (kk : jn_W E p e R s m args below meth c Q a ci nL (pc + len) lv (.int (nI n) :: st) fs ws cells slots) : jn_W E p e R s m args below meth c Q a ci nL pc lv st fs ws cells slots := by
  obtain ⟨⟨hx, hb, hml, hown, hts⟩, hr, hlk, hin, hK, hN⟩ := F
  intro ls H locs hl hP hD hS
  rcases hd with ⟨q, h1, h2, rfl⟩ | ⟨q, h1, h2, rfl⟩ | ⟨q, h1, h2, rfl⟩
  · exact lv_iconst hx hb h1 h2 (kk ls H locs hl hP hD hS)
  · exact lv_bipush hx hb h1 h2 (kk ls H locs hl hP hD hS)
  · exact lv_sipush hx hb h1 h2 (kk ls H locs hl hP hD hS)
theorem jn_newa (F : jn_F E own cc nL p s m args meth c) {n : Nat} (hn : n ≤ 4096) (hd : decode cc pc = .ok (.newarray .int, 2)) (ha : Cond.arrayClass .int ∈ jm_tb) (hc : cells + 1 ≤ R.cells) (hs : slots + n ≤ R.slots) (kk : ∀ q : Nat, jn_W E p e R s m args below meth c Q a ci nL (pc + 2) lv (.ref q :: st) fs (ws ++ [(q, .inl (jm_cI E, n, .inl (fun _ => 0)))]) (cells + 1) (slots + n)) : jn_W E p e R s m args below meth c Q a ci nL pc lv (.int (nI n) :: st) fs ws cells slots := by
  obtain ⟨⟨hx, hb, hml, hown, hts⟩, hr, hlk, hin, hK, hN⟩ := F
  intro ls H locs hl hP hD hS
  refine va_newa (atype := .int) (ty := .int) (N' := n) (a0 := (n, .inl (fun _ => 0))) hx hb (hts _ ha) rfl hK hP hD hS (fun q h => Or.inr h) (fun cA => rfl) (nI_pos (by omega)) (nI_clamp (by omega)) (by show n * 4 ≤ 536870912; omega) hc hs hd (fun q cA H1 hK1 hP1 hD1 hS1 => ?_)
  have e1 : s.vm.findClass ("[" ++ FieldType.int.toString) = some cA := (hK1.2 2 (cA, .int) rfl).2
  have e2 : s.vm.findClass ("[" ++ FieldType.int.toString) = some (jm_cI E) := (hK.2 0 (jm_cI E, .int) rfl).2
  have e3 : cA = jm_cI E := Option.some.inj (e1.symm.trans e2)
  subst e3
  exact kk q ls H1 locs hl hP1 hD1 hS1
theorem jn_put (F : jn_F E own cc nL p s m args meth c) {index k : Nat} {ty : FieldType} {v : Value} (hf : jn_Fi own index ci k ty true) (hd : decode cc pc = .ok (.putfield index, 3)) (hn : narrow ty v = v) (hfit : fits ty v = true) (hl : k < fs.length) (kk : jn_W E p e R s m args below meth c Q a ci nL (pc + 3) lv st (fs.set k v) ws cells slots) : jn_W E p e R s m args below meth c Q a ci nL pc lv (v :: .ref a :: st) fs ws cells slots := by
  obtain ⟨⟨hx, hb, hml, hown, hts⟩, hr, hlk, hin, hK, hN⟩ := F
  obtain ⟨C, T, N, ty0, f1, f2, f3, f4, f5, f6, f7, f8, f9⟩ := hf
  intro ls H locs hlv hP hD hS
  exact va_putF hx hb hts f3 ty0 f5 f6 hown hK hP hD hS 0 rfl f1 k f2 (hts _ f4) (fun _ h => h) f7 hin f8 f9 hn hfit hl hd (fun H1 locs1 hP1 hD1 hS1 => kk ls H1 locs1 hlv hP1 hD1 hS1)
theorem jn_putv (F : jn_F E own cc nL p s m args meth c) {index k : Nat} {ty : FieldType} {v : Value} (hf : jn_Fi own index ci k ty false) (hd : decode cc pc = .ok (.putfield index, 3)) (hn : narrow ty v = v) (hfit : fits ty v = true) (hl : k < fs.length) (kk : jn_W E p e R s m args below meth c Q a ci nL (pc + 3) lv st (fs.set k v) ws cells slots) : jn_W E p e R s m args below meth c Q a ci nL pc lv (v :: .ref a :: st) fs ws cells slots := by
  obtain ⟨⟨hx, hb, hml, hown, hts⟩, hr, hlk, hin, hK, hN⟩ := F
  obtain ⟨C, T, N, ty0, f1, f2, f3, f4, f5, f6, f7, f8, f9⟩ := hf
  intro ls H locs hlv hP hD hS
  exact va_put hx hb hts f3 ty0 f5 f6 hown hK hP hD hS 0 rfl f1 k f2 (hts _ f4) (fun _ h => h) f7 f9 hn hfit hl hd (fun H1 locs1 hP1 hD1 hS1 => kk ls H1 locs1 hlv hP1 hD1 hS1)
theorem jn_arr (F : jn_F E own cc nL p s m args meth c) {index k n len pc' : Nat} (hd0 : decode cc pc = .ok (.aload_n 0, 1)) (hd1 : jn_push cc (pc + 1) n len) (hd2 : decode cc (pc + 1 + len) = .ok (.newarray .int, 2)) (hd3 : decode cc (pc + 1 + len + 2) = .ok (.putfield index, 3)) (hpc : pc + 1 + len + 2 + 3 = pc') (hf : jn_Fi own index ci k (.array .int) true) (h0 : lv[0]? = some (0, .ref a)) (ha : Cond.arrayClass .int ∈ jm_tb) (hl : k < fs.length) (hn : n ≤ 4096) (hc : cells + 1 ≤ R.cells) (hs : slots + n ≤ R.slots) (kk : ∀ q : Nat, jn_W E p e R s m args below meth c Q a ci nL pc' lv [] (fs.set k (.ref q)) (ws ++ [(q, .inl (jm_cI E, n, .inl (fun _ => 0)))]) (cells + 1) (slots + n)) : jn_W E p e R s m args below meth c Q a ci nL pc lv [] fs ws cells slots := by
  subst hpc
  exact jn_al0 F hd0 h0 (jn_pushn F hd1 (jn_newa F hn hd2 ha hc hs (fun q => jn_put F hf hd3 rfl rfl hl (kk q))))
theorem jn_new (F : jn_F E own cc nL p s m args meth c) {index ci' N' : Nat} {fs' : List Value} (hk : jn_K own index ci' N' fs') (hd : decode cc pc = .ok (.new index, 3)) (hc : cells + 1 ≤ R.cells) (hs : slots + N' ≤ R.slots) (kk : ∀ q : Nat, jn_W E p e R s m args below meth c Q a ci nL (pc + 3) lv (.ref q :: st) fs (ws ++ [(q, .inr (ci', fs'))]) (cells + 1) (slots + N')) : jn_W E p e R s m args below meth c Q a ci nL pc lv st fs ws cells slots := by
  obtain ⟨⟨hx, hb, hml, hown, hts⟩, hr, hlk, hin, hK, hN⟩ := F
  obtain ⟨C, T, ty0, f1, f2, f3, f4, f5, f6, f7⟩ := hk
  intro ls H locs hl hP hD hS
  exact va_new hx hb hts f2 ty0 f3 hown (hts _ f4) (hts _ f5) (hts _ f6) hK hP hD hS (fun q h => Or.inr h) f1 f7 hc hs hd (fun q H1 hP1 hD1 hS1 => kk q ls H1 locs hl hP1 hD1 hS1)
theorem jn_dup (F : jn_F E own cc nL p s m args meth c) {x : Nat} (hd : decode cc pc = .ok (.dup, 1)) (kk : jn_W E p e R s m args below meth c Q a ci nL (pc + 1) lv (.ref x :: .ref x :: st) fs ws cells slots) : jn_W E p e R s m args below meth c Q a ci nL pc lv (.ref x :: st) fs ws cells slots := by
  obtain ⟨⟨hx, hb, hml, hown, hts⟩, hr, hlk, hin, hK, hN⟩ := F
  intro ls H locs hl hP hD hS
  exact lv_dup hx hb hd rfl (kk ls H locs hl hP hD hS)
theorem jn_cinit (F : jn_F E own cc nL p s m args meth c) {host : String} {bytes : ByteArray} {maxL d nl mc ms ci' index k0 q : Nat} {y : MethodName} {fs' : List Value} {X : jm_Lay} {M : jm_M} (hc : jn_CN own index y host bytes maxL) (hM : jn_Ct E y bytes maxL d nl mc ms ci' fs' X M k0) (hR : d + 1 ≤ R.frames ∧ 8 + (maxL + 11) + nl ≤ R.locals) (hkc : cells + mc ≤ R.cells ∧ slots + ms ≤ R.slots) (hw : (st.map fun v => v.category).sum ≤ 8) (hd : decode cc pc = .ok (.invokespecial index, 3)) (kk : ∀ ad : Nat → Nat → Nat, ad k0 0 = q → jn_W E p e R s m args below meth c Q a ci nL (pc + 3) lv st fs (ws ++ jm_ws (jl_E E ad) X M) (cells + mc) (slots + ms)) : jn_W E p e R s m args below meth c Q a ci nL pc lv (.ref q :: st) fs (ws ++ [(q, .inr (ci', fs'))]) cells slots := by
  obtain ⟨S, hr, hlk, hin, hK, hN⟩ := F
  intro ls H locs hl hP hD hS
  exact jn_init (w := (a, .inr (ci, fs)) :: ws) S hK hN hc hM hR hkc hw hd hl.1 hP hD hS (fun q h => Or.inr h) (fun ad H1 locs1 h0 hP1 hD1 hS1 => kk ad h0 ls H1 locs1 hl hP1 hD1 hS1)
theorem jn_obj (F : jn_F E own cc nL p s m args meth c) {host : String} {bytes : ByteArray} {maxL d nl mc ms ci' N' i1 i2 i3 k k0 : Nat} {y : MethodName} {fs' : List Value} {X : jm_Lay} {M : jm_M} {C : String} (h0 : lv[0]? = some (0, .ref a)) (hd0 : decode cc pc = .ok (.aload_n 0, 1)) (hd1 : decode cc (pc + 1) = .ok (.new i1, 3)) (hd2 : decode cc (pc + 4) = .ok (.dup, 1)) (hd3 : decode cc (pc + 5) = .ok (.invokespecial i2, 3)) (hd4 : decode cc (pc + 8) = .ok (.putfield i3, 3)) (hk : jn_K own i1 ci' N' fs') (hc : jn_CN own i2 y host bytes maxL) (hf : jn_Fi own i3 ci k (.object C) true) (hM : jn_Ct E y bytes maxL d nl mc ms ci' fs' X M k0) (hl : k < fs.length) (hR : d + 1 ≤ R.frames ∧ 8 + (maxL + 11) + nl ≤ R.locals) (hkc : cells + 1 + mc ≤ R.cells ∧ slots + N' + ms ≤ R.slots)
    (kk : ∀ (q : Nat) (ad : Nat → Nat → Nat), ad k0 0 = q → jn_W E p e R s m args below meth c Q a ci nL (pc + 11) lv [] (fs.set k (.ref q)) (ws ++ jm_ws (jl_E E ad) X M) (cells + 1 + mc) (slots + N' + ms)) : jn_W E p e R s m args below meth c Q a ci nL pc lv [] fs ws cells slots :=
  jn_al0 F hd0 h0 (jn_new F hk hd1 (by omega) (by omega) (fun q => jn_dup F hd2 (jn_cinit F hc hM hR hkc (by simp [Value.category]) hd3 (fun ad h => jn_put F hf hd4 rfl rfl hl (kk q ad h)))))
theorem jn_eq {fs' : List Value} {ws' : va_W} {cells' slots' : Nat} (h1 : fs = fs') (h2 : ws = ws') (h3 : cells = cells') (h4 : slots = slots') (kk : jn_W E p e R s m args below meth c Q a ci nL pc lv st fs' ws' cells' slots') : jn_W E p e R s m args below meth c Q a ci nL pc lv st fs ws cells slots := by
  subst h1
  subst h2
  subst h3
  subst h4
  exact kk
theorem jn_ret (F : jn_F E own cc nL p s m args meth c) {X : jm_Lay} {M : jm_M} {k0 : Nat} (hd : decode cc pc = .ok (.return_, 1)) (ad : Nat → Nat → Nat) (h0 : ad k0 0 = a) (hw : (a, .inr (ci, fs)) :: ws = jm_ws (jl_E E ad) X M) : jn_W E p e R s m args below meth c (MQ below (jn_Qc E X M k0 a) args s cells slots (jn_A a s.heap.size)) a ci nL pc lv [] fs ws cells slots := by
  obtain ⟨⟨hx, hb, hml, hown, hts⟩, hr, hlk, hin, hK, hN⟩ := F
  intro ls H locs hl hP hD hS
  rw [hw] at hP hD
  exact W.vret hx hb hr (fun t ht _ => ⟨⟨ad, rfl, h0, by rw [ht]; exact hP, hD⟩, hS.F ht⟩) hS.2.2 hd hlk
end
theorem jn_enter {E : jm_Ev} {y : MethodName} {bytes : ByteArray} {maxL d nl mc ms ci i1 k0 : Nat} {fs : List Value} {X : jm_Lay} {M : jm_M} (hy : plainName y.cls = true) (hn : y.name = "<init>") (hmL : 1 ≤ maxL) (d0 : decode bytes 0 = .ok (.aload_n 0, 1)) (d1 : decode bytes 1 = .ok (.invokespecial i1, 3)) (t1 : Cond.methodLink y.cls i1 Lib.objectInit ∈ jm_tb) (t2 : Cond.instanceMethod Lib.objectInit ∈ jm_tb) (t3 : Cond.code Lib.objectInit ⟨#[0xb1]⟩ 1 none ∈ jm_tb) (hd : 1 ≤ d) (hnl : 12 ≤ nl)
    (body : ∀ (p : Program) (e : Env) (s : State) (m : MethodId) (args : Array Value) (below : List Frame) (meth : Method) (c : Code) (a : Nat), jn_F E y.cls bytes maxL p s m args meth c → jn_W E p e ({ frames := d, cells := mc, slots := ms, locals := nl } : Room) s m args below meth c (MQ below (jn_Qc E X M k0 a) args s mc ms (jn_A a s.heap.size)) a ci maxL 4 [(0, .ref a)] [] fs [] 0 0) : jn_Ct E y bytes maxL d nl mc ms ci fs X M k0 := by
  intro a sz
  refine Met.ofW (cc := bytes) (maxL := maxL) (ret := none) hy rfl ?_
  intro p e s m args below meth c s₁ B hml hv
  obtain ⟨rfl, rfl, hP, hK, hN⟩ := hv
  have hts := atoms_spec (ws := Cond.code y bytes maxL none :: jm_tb) B.pre
  have hown : s.vm.findClass y.cls = some m.cls := findClass_of_methodNamed B.named
  have hin : meth.name = "<init>" := (name_of_methodNamed B.named B.method).1.trans hn
  have F : jn_F E y.cls bytes maxL p s m ([Value.ref a] : List Value).toArray meth c := ⟨⟨B.exec, B.bytes, hml, hown, fun w hw => hts w (List.mem_cons_of_mem _ hw)⟩, B.returns, B.notSynchronized, hin, hK, hN⟩
  have hl := lv_entry [Value.ref a] (n := maxL) hmL
  rw [lg_entry_eq]
  generalize (lg_sl [Value.ref a] ++ List.replicate (maxL - (lg_sl [Value.ref a]).length) Slot.unset).toArray = ls at hl ⊢
  have hl : lv_has ls maxL [(0, .ref a)] := hl
  refine lv_aload_n B.exec B.bytes d0 rfl (lv_at hl 0 rfl) ?_
  refine W.objInit B.exec B.bytes hown (hts _ (List.mem_cons_of_mem _ t1)) (hts _ (List.mem_cons_of_mem _ t2)) (hts _ (List.mem_cons_of_mem _ t3)) rfl (by rw [hml]; exact hl.1) rfl d1 hd hnl ?_
  refine W.eq (g2 := F0 m 4 ls []) rfl ?_
  refine body p e s m _ below meth c a F ls s.heap [] hl hP ⟨fun i j x y hi hj _ => ?_, fun k x hx => ?_⟩ va_S.rf
  · have h1 : i < 1 := (List.getElem?_eq_some_iff.mp hi).1
    have h2 : j < 1 := (List.getElem?_eq_some_iff.mp hj).1
    omega
  · have h1 : k < 1 := (List.getElem?_eq_some_iff.mp hx).1
    rw [show k = 0 by omega] at hx
    cases hx
    exact Or.inl rfl
