/-! worlds that grow: constructors -/
def jn_z (fs : List (Option (Nat × Nat))) : List Value := fs.map (fun o => match o with | none => .int 0 | some _ => .null)
def jn_N (U : State) : Prop :=
  va_Nw (.methodLinkNest "WeighedInBooks" 9 yX7_init "WeighedInBooks") U ∧ va_Nw (.methodLinkNest "WeighedInBooks" 28 yX5_init "WeighedInBooks") U ∧ va_Nw (.methodLinkNest "WeighedInBooks" 35 yX2_init "WeighedInBooks") U ∧ va_Nw (.methodLinkNest "WeighedInBooks" 42 yX0_init "WeighedInBooks") U ∧ va_Nw (.methodLinkNest "WeighedInBooks" 49 yX1_init "WeighedInBooks") U ∧ va_Nw (.methodLinkNest "WeighedInBooks$Past" 21 yX7_init "WeighedInBooks") U ∧ va_Nw (.methodLinkNest "WeighedInBooks$Statements" 17 yX7_init "WeighedInBooks") U ∧ va_Nw (.methodLinkNest "WeighedInBooks$Foresight" 11 yX7_init "WeighedInBooks") U ∧ va_AO "WeighedInBooks$Town" U
theorem jn_N.warm {s U : State} (hW : s.WarmedH U.vm) (h : jn_N s) : jn_N U := by
  obtain ⟨h1, h2, h3, h4, h5, h6, h7, h8, h9⟩ := h
  exact ⟨h1.warmM hW, h2.warmM hW, h3.warmM hW, h4.warmM hW, h5.warmM hW, h6.warmM hW, h7.warmM hW, h8.warmM hW, h9.moved hW.alike⟩
theorem jn_N.same {s U : State} (h : s.vm = U.vm) (hN : jn_N s) : jn_N U := by
  obtain ⟨h1, h2, h3, h4, h5, h6, h7, h8, h9⟩ := hN
  exact ⟨h1.same rfl h, h2.same rfl h, h3.same rfl h, h4.same rfl h, h5.same rfl h, h6.same rfl h, h7.same rfl h, h8.same rfl h, h9.moved (by rw [h]; exact Vm.Alike.refl U.vm)⟩
def jn_in (G : Nat → Bool) (X : jm_Lay) : Bool := X.all (fun q => G q.1.1 && (match q.2 with | .inl _ => true | .inr (.inl o) => o.2.all (fun r => match r with | none => true | some r => G r.1) | .inr (.inr rs) => rs.all (fun r => G r.1)))
theorem jn_fv {E : jm_Ev} {ad ad' : Nat → Nat → Nat} {G : Nat → Bool} (ha : ∀ t j, G t = true → ad t j = ad' t j) (f : Nat → Int32) (fs : List (Option (Nat × Nat))) : ∀ c, fs.all (fun r => match r with | none => true | some r => G r.1) = true → jm_fv (jl_E E ad) f fs c = jm_fv (jl_E E ad') f fs c := by
  induction fs with
  | nil => intro c _; rfl
  | cons o r ih =>
    intro c h
    rw [List.all_cons, Bool.and_eq_true] at h
    cases o with
    | none => show _ :: _ = _ :: _; rw [ih (c + 1) h.2]
    | some q =>
      show Value.ref (ad q.1 q.2) :: _ = Value.ref (ad' q.1 q.2) :: _
      rw [ih (c + 1) h.2, ha q.1 q.2 h.1]
theorem jn_cong {E : jm_Ev} {ad ad' : Nat → Nat → Nat} {M M' : jm_M} {X : jm_Lay} (G : Nat → Bool) (hX : jn_in G X = true) (ha : ∀ t j, G t = true → ad t j = ad' t j) (hm : ∀ t j, G t = true → M t j = M' t j) : jm_ws (jl_E E ad) X M = jm_ws (jl_E E ad') X M' := by
  refine List.map_congr_left (fun q hq => ?_)
  have h := List.all_eq_true.mp hX q hq
  rw [Bool.and_eq_true] at h
  obtain ⟨⟨t, j⟩, d⟩ := q
  have e1 : ad t j = ad' t j := ha t j h.1
  have e2 : M t j = M' t j := hm t j h.1
  cases d with
  | inl n =>
    show (ad t j, (Sum.inl (jm_cI E, n, .inl (M t j)) : va_E)) = (ad' t j, Sum.inl (jm_cI E, n, .inl (M' t j)))
    rw [e1, e2]
  | inr d => cases d with
    | inl o =>
      show (ad t j, (Sum.inr (o.1, jm_fv (jl_E E ad) (M t j) o.2 0) : va_E)) = (ad' t j, Sum.inr (o.1, jm_fv (jl_E E ad') (M' t j) o.2 0))
      rw [e1, e2, jn_fv ha _ o.2 0 h.2]
    | inr rs =>
      show (ad t j, (Sum.inl (jm_cT E, rs.length, .inr (.inr (.inr (.inr (fun i => (rs[i]?).map (fun r => ad r.1 r.2)))))) : va_E)) = (ad' t j, Sum.inl (jm_cT E, rs.length, .inr (.inr (.inr (.inr (fun i => (rs[i]?).map (fun r => ad' r.1 r.2)))))))
      rw [e1]
      congr 8
      funext i
      cases hi : rs[i]? with
      | none => rfl
      | some r =>
        have hr := List.all_eq_true.mp h.2 r (List.mem_of_getElem? hi)
        simp [ha r.1 r.2 hr]
def jn_A (a sz : Nat) : Nat → Prop := fun q => q = a ∨ sz ≤ q
def jn_Qc (E : jm_Ev) (X : jm_Lay) (M : jm_M) (k0 : Nat) (a : Nat) : Array Value → State → Outcome → State → Prop := fun _ st oc t => (∃ ad : Nat → Nat → Nat, oc = .returned none ∧ ad k0 0 = a ∧ va_P (jm_D E) jm_cl (jm_ws (jl_E E ad) X M) t.heap ∧ va_D (jn_A a st.heap.size) (jm_ws (jl_E E ad) X M)) ∧ va_F (jn_A a st.heap.size) st t
def jn_Pc (E : jm_Ev) (a ci sz : Nat) (fs : List Value) (U : State) : Prop := U.heap.size = sz ∧ va_P (jm_D E) jm_cl [(a, .inr (ci, fs))] U.heap ∧ va_K (jm_D E) jm_cl (jm_tys E) U ∧ jn_N U
def jn_Ct (E : jm_Ev) (y : MethodName) (bytes : ByteArray) (maxL d nl mc ms ci : Nat) (fs : List Value) (X : jm_Lay) (M : jm_M) (k0 : Nat) : Prop := ∀ a sz : Nat, Met (jm_l E) y (Cond.code y bytes maxL none :: jm_tb) ({ frames := d, cells := mc, slots := ms, locals := nl } : Room) (va_Pc [.ref a] (jn_Pc E a ci sz fs)) (jn_Qc E X M k0 a) mc ms (jn_A a sz)
theorem jn_blind {E : jm_Ev} {a ci sz : Nat} {fs : List Value} {av : List Value} : FrameBlind (va_Pc av (jn_Pc E a ci sz fs)) := by
  intro a U g mk h
  obtain ⟨e, h0, h1, h2, h3⟩ := h
  exact ⟨e, h0, h1, va_K.moved (u := U) (U := U.calling g mk a) (Vm.Alike.refl U.vm) h2, h3.same (U := U.calling g mk a) rfl⟩
theorem jn_join {A : Nat → Prop} {D : va_G} {cl : List vw_C} {w w1 : va_W} {q : Nat} {e : va_E} {H H1 : Heap} (hP : va_P D cl (w ++ [(q, e)]) H) (hD : va_D A (w ++ [(q, e)])) (hA : ∀ q, H.size ≤ q → A q) (hk : ∀ x : Nat, x < H.size → ¬ jn_A q H.size x → H1[x]? = H[x]?) (hP1 : va_P D cl w1 H1) (hD1 : va_D (jn_A q H.size) w1) : va_P D cl (w ++ w1) H1 ∧ va_D A (w ++ w1) := by
  have hq : (w ++ [(q, e)])[w.length]? = some (q, e) := by simp
  have hw : ∀ (k : Nat) (x : Nat × va_E), w[k]? = some x → (w ++ [(q, e)])[k]? = some x ∧ k < w.length := fun k x hx => by
    have hl := (List.getElem?_eq_some_iff.mp hx).1
    exact ⟨by rw [List.getElem?_append_left hl]; exact hx, hl⟩
  have apart : ∀ (k : Nat) (x : Nat × va_E), w[k]? = some x → x.1 < H.size ∧ ¬ jn_A q H.size x.1 := by
    intro k x hx
    obtain ⟨h1, h2⟩ := hw k x hx
    have hl := (hP k x h1).lt
    refine ⟨hl, fun h => ?_⟩
    rcases h with h | h
    · have := hD.1 k w.length x (q, e) h1 hq h
      omega
    · omega
  have hDw : va_D A w := ⟨fun i j x y hi hj hxy => hD.1 i j x y (hw i x hi).1 (hw j y hj).1 hxy, fun k x hx => hD.2 k x (hw k x hx).1⟩
  have hAq : A q := hD.2 _ (q, e) hq
  refine ⟨va_P.app (fun k x hx => ?_) hP1, va_D.app hDw (hD1.weaken (fun k x _ h => ?_)) (fun i j x y hx hy hxy => ?_)⟩
  · obtain ⟨g1, g2⟩ := apart k x hx
    exact (hP k x (hw k x hx).1).kept (hk x.1 g1 g2)
  · rcases h with h | h
    · rw [h]; exact hAq
    · exact hA _ h
  · exact (apart i x hx).2 (by rw [hxy]; exact hD1.2 j y hy)
def jn_CN (own : String) (index : Nat) (y : MethodName) (host : String) (bytes : ByteArray) (maxL : Nat) : Prop := Cond.instanceMethod y ∈ jm_tb ∧ Cond.initialized y.cls ∈ jm_tb ∧ Cond.code y bytes maxL none ∈ jm_tb ∧ y.cls ≠ "java/lang/invoke/MethodHandle" ∧ y.cls ≠ "java/lang/invoke/VarHandle" ∧ (parseMethodDescriptor y.desc).map (fun d => d.parameters.length) = some 0 ∧ y.name = "<init>" ∧ ((∀ s, jn_N s → va_Nw (.methodLinkNest own index y host) s) ∨ Cond.methodLink own index y ∈ jm_tb)
section
variable {E : jm_Ev} {p : Program} {e : Env} {R : Room} {s : State} {m : MethodId} {args : Array Value} {below : List Frame} {meth : Method} {c : Code} {H : Heap} {locs : List Loc} {cells slots : Nat} {Q : State → Prop} {pc : Nat} {ls : Array Slot} {A : Nat → Prop}
theorem jn_init {own host : String} {cc bytes : ByteArray} {nL maxL d nl mc ms ci index k0 q : Nat} {y : MethodName} {fs : List Value} {X : jm_Lay} {M : jm_M} {w : va_W} {rest : List Value}
    (S : CallFix p m c cc nL s args jm_tb own) (hK : va_K (jm_D E) jm_cl (jm_tys E) s) (hN : jn_N s) (hc : jn_CN own index y host bytes maxL) (hM : jn_Ct E y bytes maxL d nl mc ms ci fs X M k0) (hR : d + 1 ≤ R.frames ∧ 8 + (maxL + 11) + nl ≤ R.locals) (hkc : cells + mc ≤ R.cells ∧ slots + ms ≤ R.slots) (hw : (rest.map fun v => v.category).sum ≤ 8) (hd : decode cc pc = .ok (.invokespecial index, 3)) (hsz : ls.size = nL)
    (hP : va_P (jm_D E) jm_cl (w ++ [(q, .inr (ci, fs))]) H) (hD : va_D A (w ++ [(q, .inr (ci, fs))])) (hS : va_S A s.heap H locs) (hA : ∀ q, s.heap.size ≤ q → A q)
    (kk : ∀ (ad : Nat → Nat → Nat) (H1 : Heap) (locs1 : List Loc), ad k0 0 = q → va_P (jm_D E) jm_cl (w ++ jm_ws (jl_E E ad) X M) H1 → va_D A (w ++ jm_ws (jl_E E ad) X M) → va_S A s.heap H1 locs1 → W p (jm_l E) e R s m args below meth c H1 locs1 (cells + mc) (slots + ms) Q (F0 m (pc + 3) ls rest)) : W p (jm_l E) e R s m args below meth c H locs cells slots Q (F0 m pc ls (.ref q :: rest)) := by
  obtain ⟨w1, w2, w3, w4, w5, w6, w7, w8⟩ := hc
  obtain ⟨hx, hb, hml, hown, hts⟩ := S
  have hG : GoodIn jm_tb (Cond.code y bytes maxL none :: jm_tb) := jm_good (fun w hw => by
    rcases List.mem_cons.mp hw with rfl | h
    · exact w3
    · exact h)
  have hq : (w ++ [(q, .inr (ci, fs))])[w.length]? = some (q, (Sum.inr (ci, fs) : va_E)) := by simp
  have hAq : A q := hD.2 _ _ hq
  have hPq : va_P (jm_D E) jm_cl [(q, .inr (ci, fs))] H := fun k x hx => by
    have hz : k < 1 := (List.getElem?_eq_some_iff.mp hx).1
    rw [show k = 0 by omega] at hx
    cases hx
    exact hP _ _ hq
  have hpre : PreS s H (va_Pc [.ref q] (jn_Pc E q ci H.size fs)) [.ref q] := ⟨jn_blind, fun U hU hW => ⟨rfl, by rw [hU], by rw [hU]; exact hPq, va_K.moved hW.alike hK, hN.warm hW⟩⟩
  have hr : va_Run p (jm_l E) e R s m args below meth c H locs cells slots mc ms (F0 m pc ls (.ref q :: rest)) rest (jn_Qc E X M k0 q [Value.ref q].toArray) (jn_A q H.size) := by
    rcases w8 with w8 | w8
    · exact va_runIN (As := []) (rest := rest) (host := host) ⟨hx, hb, hml, hown, hts⟩ (hM q H.size) ⟨va_cnB 0 hts hG rfl rfl rfl (w8 s hN) (hts _ w2) ⟨w4, w5, w6⟩ hR, w7, hts _ w1⟩ hpre rfl rfl hsz rfl (lv_room hw) hd hkc
    · exact va_runI (As := []) (rest := rest) ⟨hx, hb, hml, hown, hts⟩ (hM q H.size) (cwI 0 hts hG rfl rfl rfl (hts _ w2) (hts _ w8) (hts _ w1) w7 ⟨w4, w5, w6⟩ hR) hpre rfl rfl hsz rfl (lv_room hw) hd hkc
  intro T hT X0
  obtain ⟨v0, st₀, t, T', L, h0, X', hL, e1, e2, ⟨⟨ad, hv, had, hP1, hD1⟩, hz, hk⟩, stp⟩ := hr T hT X0
  cases hv
  rw [h0] at hz hk hD1
  have hA1 : ∀ x, H.size ≤ x → A x := fun x hx => hA x (Nat.le_trans hS.1 hx)
  obtain ⟨hP2, hD2⟩ := jn_join hP hD hA1 hk hP1 hD1
  obtain ⟨t2, a1, b1⟩ := kk ad T'.heap (locs ++ L) had (by rw [e1]; exact hP2) hD2 ⟨Nat.le_trans hS.1 (by rw [e1]; exact hz), fun x h1 h2 => by
      rw [e1, hk x (Nat.lt_of_lt_of_le h1 hS.1) (fun z => z.elim (fun z => h2 (by rw [z]; exact hAq)) (fun z => absurd (Nat.lt_of_lt_of_le h1 hS.1) (Nat.not_lt.mpr z)))]
      exact hS.2.1 x h1 h2, fun x hx => by
      rcases List.mem_append.mp hx with h | h
      · exact hS.2.2 x h
      · exact (hL x h).elim (fun z => by rw [z]; exact hAq) (fun z => hA1 _ z)⟩ T' rfl X'
  exact ⟨t2, stp t2 a1, b1⟩
end
