/-! THE CLAIM OUT OF ONE WALK OF THE LAW'S BODY. Your part is whole_start (and what it stands on); all else here is the same for every law, but numbers. -/
def R_law : String := "WeighedInBooksLaw"
def lw_P (b : Addr) (xs : List Int32) (args : Array Value) (s : State) : Prop := args = #[.ref b] ∧ s.IntsAt b xs ∧ xs.length ≤ 3072 ∧ (Jvm.Cond.and given_1 narrow_1).before args s = true
def lw_Q (_ : Array Value) (s : State) (o : Outcome) (t : State) : Prop := o = .returned (some (.int 1)) ∧ Framed s o t [] 600000 7302250
def lw_Z (below : List Frame) (a : Array Value) (s : State) : State → Prop := fun t => ∃ o, t.status = .running ∧ Ended t below o ∧ lw_Q a s o t
/-- the law's own end, with 1 on the stack, nothing written that was there before, its room as the claim has it -/
theorem lw_ret {p : Program} {l : Launch} {e : Env} {s : State} {m : MethodId} {below : List Frame} {meth : Method} {c : Code} {b : Nat} (hx : p.tables.exec = Jvm.exec) (hb : c.code = code) (hr : meth.sig.returnType = ret) (hlocks : meth.locks = false) {pc : Nat} {H : Heap} {ls : Array Slot} (hdg : decode code pc = .ok (.ireturn, 1)) : W p l e room_1 s m #[Value.ref b] below meth c H [] 600000 7302250 (lw_Z below #[Value.ref b] s) (F0 m pc ls [.int 1]) := by
  intro T hT X
  obtain ⟨fs, hret, hrun, hended, hW, hframe⟩ := X.leave (v := some (.int 1)) (hlocks := hlocks) (fun h => by rw [hr] at h; cases h)
  have hmeth' : T.vm.method? m = some meth := X.method'
  refine ⟨T.setFrames fs, ?_, .returned (some (.int 1)), hrun, hended, rfl, ⟨_, rfl⟩, hW, hframe⟩
  jvm_step X.here [X.here.top, hx, hb, hdg, hmeth', hr, ret, narrow_b1]
  (try refine ⟨rfl, ?_⟩); (try refine ⟨rfl, ?_⟩)
  first | (intro acts; rw [hret _ acts rfl rfl rfl]) | rw [hret _ _ rfl rfl rfl]
  exact Steps.refl _
/-- what holds at the law's entry: the machine, the code, the tables' words (any of lw_tbl by 'hts w (by decide +kernel)'), the script of L ints xs at the cell b, what the Statement gives of the start (any of its parts by flat_of_before) -/
def lw_At (p : Program) (s : State) (m : MethodId) (meth : Method) (c : Code) (b L : Nat) (xs : Nat → Int32) : Prop :=
  p.tables.exec = Jvm.exec ∧ c.code = code ∧ meth.sig.returnType = ret ∧ c.maxLocals = 4 ∧ s.vm.findClass R_law = some m.cls ∧ (∀ w ∈ lw_tbl, w.before #[Value.ref b] s = true) ∧ va_X b L xs s s.heap ∧ b < s.heap.size ∧ meth.locks = false ∧ (Jvm.Cond.and given_1 narrow_1).before #[Value.ref b] s = true
/-! the law's walk: two worlds, the class's and the reference's -/
def jl_Z (E : jm_Ev) (A : Nat → Prop) (s : State) : Prop := va_Z "WeighedInBooks$Statements" "STEP_LETTERS" "[C" (.ref (jm_tS E)) A s s.heap ∧ va_T .char (jm_tS E) 8 (fun k => .int (jm_SL k)) A s s.heap
theorem jl_Pz {E : jm_Ev} {X : jm_Lay} {M : jm_M} {A : Nat → Prop} {s U : State} {H : Heap} {locs : List Loc} (hU : U.heap = H) (hW : s.WarmedH U.vm) (hP : va_P (jm_D E) jm_cl (jm_ws E X M) H) (hK : va_K (jm_D E) jm_cl (jm_tys E) s) (hZ : jl_Z E A s) (hA : ∀ q, jm_A E X q → A q) (hS : va_S A s.heap H locs) : jm_Pz E X M U := by
  subst hU
  exact ⟨hP, va_K.moved hW.alike hK, ((hZ.1.kept (fun a h1 h2 => hS.2.1 a h1 h2)).moved hW.alike).narrow hA, ((hZ.2.kept (fun a h1 h2 => hS.2.1 a h1 h2)).moved hW.alike).narrow hA⟩
theorem jm_ws_in {E : jm_Ev} {X : jm_Lay} {M : jm_M} {k : Nat} {q : Nat × va_E} (h : (jm_ws E X M)[k]? = some q) : jm_A E X q.1 := by
  rw [jm_ws, List.getElem?_map] at h
  cases hr : X[k]? with
  | none => rw [hr] at h; cases h
  | some r => rw [hr] at h; cases h; exact ⟨r, List.mem_of_getElem? hr, rfl⟩
theorem jl_call {E1 E2 : jm_Ev} {X1 X2 : jm_Lay} {M1 M1' M2 : jm_M} {p : Program} {e : Env} {R : Room} {s : State} {m : MethodId} {args : Array Value} {below : List Frame} {meth : Method} {c : Code} {H : Heap} {locs : List Loc} {kc ks : Nat} {Q : State → Prop} {pc : Nat} {ls : Array Slot} {A : Nat → Prop} {own : String} {cc : ByteArray} {nL : Nat} {y : MethodName} {bytes : ByteArray} {maxL d' n' na index t ci : Nat} {fs : List (Option (Nat × Nat))} {ret' : Option FieldType} {As rest stk : List Value} {v : Option Value}
    (hx : p.tables.exec = Jvm.exec) (hb : c.code = cc) (hml : c.maxLocals = nL) (hown : s.vm.findClass own = some m.cls) (hts : ∀ w ∈ jm_tb, w.before args s = true) (hK : va_K (jm_D E1) jm_cl (jm_tys E1) s) (hZ : jl_Z E1 A s) (hA1 : ∀ q, jm_A E1 X1 q → A q) (hap : ∀ q, jm_A E1 X1 q → jm_A E2 X2 q → False)
    (hc : jm_CV own index y bytes maxL ret' na) (hna : As.length = na) (hX : jm_obj X1 t ci fs) (hci : (jm_cl[ci]?).map (fun q => q.1) = some y.cls) (hM : jm_Ct E1 X1 y bytes maxL ret' d' n' (.ref (jm_a E1 t 0) :: As) M1 v M1') (hst : stk = As.reverse ++ .ref (jm_a E1 t 0) :: rest) (hw : (rest.map fun v => v.category).sum ≤ 8) (hR : d' + 1 ≤ R.frames ∧ 8 + (maxL + 11) + n' ≤ R.locals) (hd : decode cc pc = .ok (.invokevirtual index, 3)) (hsz : ls.size = nL) (hkc : kc ≤ R.cells ∧ ks ≤ R.slots)
    (hP1 : va_P (jm_D E1) jm_cl (jm_ws E1 X1 M1) H) (hP2 : va_P (jm_D E1) jm_cl (jm_ws E2 X2 M2) H) (hS : va_S A s.heap H locs)
    (kk : ∀ (H1 : Heap) (locs1 : List Loc), va_P (jm_D E1) jm_cl (jm_ws E1 X1 M1') H1 → va_P (jm_D E1) jm_cl (jm_ws E2 X2 M2) H1 → va_S A s.heap H1 locs1 → W p (jm_l E1) e R s m args below meth c H1 locs1 kc ks Q (F0 m (pc + 3) ls (v.toList ++ rest))) : W p (jm_l E1) e R s m args below meth c H locs kc ks Q (F0 m pc ls stk) := by
  subst hst
  obtain ⟨w1, w2, w3, w4, w5, w6, w7, w8⟩ := hc
  obtain ⟨q, hq⟩ := hX
  have hG : GoodIn jm_tb (wsV own index y.cls y (Cond.code y bytes maxL ret' :: jm_tb)) := jm_good (fun w hw => by
    simp only [wsV, List.mem_append, List.mem_cons, List.not_mem_nil, or_false] at hw
    rcases hw with (rfl | rfl | rfl | rfl) | rfl | h
    · exact w1
    · exact w2
    · exact w3
    · exact w4
    · exact w5
    · exact h)
  have hrec : ∃ cell : Cell, H[jm_a E1 t 0]? = some cell ∧ cell.vm.isStatics = false ∧ s.vm.findClass y.cls = some cell.cls := by
    cases hcc : jm_cl[ci]? with
    | none => rw [hcc] at hci; cases hci
    | some q9 =>
      rw [hcc] at hci
      have e9 : q9.1 = y.cls := Option.some.inj hci
      rw [← e9]
      exact va_recv hK hP1 hcc (jm_ws_at hq)
  have hr : va_Run p (jm_l E1) e R s m args below meth c H locs kc ks 0 0 (F0 m pc ls (As.reverse ++ .ref (jm_a E1 t 0) :: rest)) rest (jm_Qz E1 X1 (fun v' M'' => v' = v ∧ M'' = M1') (Value.ref (jm_a E1 t 0) :: As).toArray) (jm_A E1 X1) := va_runV (As := As) (rest := rest) ⟨hx, hb, hml, hown, hts⟩ hM (cwV na hts hG rfl rfl rfl ⟨rfl, w6, w7, w8⟩ hR) ⟨jm_Pz_blind, hrec, fun U hU hW => ⟨rfl, jl_Pz hU hW hP1 hK hZ hA1 hS⟩⟩ rfl hna hsz rfl (lv_room hw) hd ⟨hkc.1, hkc.2⟩
  intro T hT X0
  obtain ⟨v0, st₀, t', T', L, h0, X', hL, e1, e2, ⟨⟨v1, M1'', hv, ⟨rfl, rfl⟩, hP1'⟩, hz, hk⟩, stp⟩ := hr T hT X0
  cases hv
  rw [h0] at hz hk
  obtain ⟨t2, a1, b1⟩ := kk T'.heap (locs ++ L) (by rw [e1]; exact hP1') (hP2.kept (fun k q hq => by
      rw [e1]
      exact hk q.1 ((hP2 k q hq).lt) (fun z => hap q.1 z (jm_ws_in hq)))) ⟨Nat.le_trans hS.1 (by rw [e1]; exact hz), fun q h1 h2 => by rw [e1, hk q (Nat.lt_of_lt_of_le h1 hS.1) (fun z => h2 (hA1 q z))]; exact hS.2.1 q h1 h2, fun q hq => by
      rcases List.mem_append.mp hq with h | h
      · exact hS.2.2 q h
      · exact hA1 _ (hL q h)⟩ T' rfl X'
  exact ⟨t2, stp t2 a1, b1⟩
