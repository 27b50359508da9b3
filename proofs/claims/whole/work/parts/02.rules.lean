abbrev jm_LV : Type := List (Option Value)
abbrev jm_M : Type := Nat → Nat → Nat → Int32
abbrev jm_Dsc : Type := Nat ⊕ ((Nat × List (Option (Nat × Nat))) ⊕ List (Nat × Nat))
abbrev jm_Lay : Type := List ((Nat × Nat) × jm_Dsc)
abbrev jm_Ev : Type := Launch × va_G × ClassId × ClassId × Nat × (Nat → Nat → Nat)
def jm_l (E : jm_Ev) : Launch := E.1
def jm_D (E : jm_Ev) : va_G := E.2.1
def jm_cI (E : jm_Ev) : ClassId := E.2.2.1
def jm_cT (E : jm_Ev) : ClassId := E.2.2.2.1
def jm_tS (E : jm_Ev) : Nat := E.2.2.2.2.1
def jm_a (E : jm_Ev) (t j : Nat) : Nat := E.2.2.2.2.2 t j
abbrev jm_cl : List vw_C := [(RX0, TX0, 4), (RX1, TX1, 4), (RX2, TX2, 7), (RX4, TX4, 3), (RX5, TX5, 4), (RX7, TX7, 15), (RX8, TX8, 12), (RX9, TX9, 44)]
abbrev jm_tys (E : jm_Ev) : List (ClassId × FieldType) := [(jm_cI E, .int), (jm_cT E, .object "WeighedInBooks$Town")]
def jm_fv (E : jm_Ev) (f : Nat → Int32) : List (Option (Nat × Nat)) → Nat → List Value
  | [], _ => []
  | none :: r, k => .int (f k) :: jm_fv E f r (k + 1)
  | some q :: r, k => .ref (jm_a E q.1 q.2) :: jm_fv E f r (k + 1)
def jm_cell (E : jm_Ev) (M : jm_M) (q : (Nat × Nat) × jm_Dsc) : Nat × va_E :=
  (jm_a E q.1.1 q.1.2, match q.2 with
    | .inl n => .inl (jm_cI E, n, .inl (M q.1.1 q.1.2))
    | .inr (.inl o) => .inr (o.1, jm_fv E (M q.1.1 q.1.2) o.2 0)
    | .inr (.inr rs) => .inl (jm_cT E, rs.length, .inr (.inr (.inr (.inr (fun i => (rs[i]?).map (fun r => jm_a E r.1 r.2)))))))
def jm_ws (E : jm_Ev) (X : jm_Lay) (M : jm_M) : va_W := X.map (jm_cell E M)
def jm_A (E : jm_Ev) (X : jm_Lay) : Nat → Prop := fun q => ∃ r ∈ X, q = jm_a E r.1.1 r.1.2
def jm_dj (E : jm_Ev) (X : jm_Lay) : Prop := ∀ (i j : Nat) (p q : (Nat × Nat) × jm_Dsc), X[i]? = some p → X[j]? = some q → jm_a E p.1.1 p.1.2 = jm_a E q.1.1 q.1.2 → i = j
def jm_up (M : jm_M) (t j i : Nat) (v : Int32) : jm_M := fun a b k => if a = t ∧ b = j ∧ k = i then v else M a b k
def jm_cp (M : jm_M) (t j t' j' n : Nat) : jm_M := fun a b k => if a = t' ∧ b = j' ∧ k < n then M t j k else M a b k
def jm_rd (n : Nat) (f : Nat → Int32) (i : Int32) : Option Int32 := if i < 0 ∨ n ≤ i.toNatClampNeg then none else some (f i.toNatClampNeg)
def jm_wa (n : Nat) (M : jm_M) (t j : Nat) (i v : Int32) : Option jm_M := if i < 0 ∨ n ≤ i.toNatClampNeg then none else some (jm_up M t j i.toNatClampNeg v)
def jm_wf (M : jm_M) (t k : Nat) (v : Int32) : Option jm_M := some (jm_up M t 0 k v)
def jm_wz (M : jm_M) (t k : Nat) (v : Int32) : Option jm_M := if v = 0 ∨ v = 1 then some (jm_up M t 0 k v) else none
def jm_dv (x y : Int32) : Option Int32 := if y = 0 then none else some (x / y)
def jm_rm (x y : Int32) : Option Int32 := if y = 0 then none else some (x - x / y * y)
def jm_ldv (x y : Int64) : Option Int64 := if y = 0 then none else some (x / y)
def jm_lrm (x y : Int64) : Option Int64 := if y = 0 then none else some (x - x / y * y)
def jm_bz (v : Int32) : Option Int32 := if v = 0 ∨ v = 1 then some v else none
def jm_len (X : jm_Lay) (r : Nat × Nat) : Option Nat := match X.find? (fun q => q.1.1 == r.1 && q.1.2 == r.2) with
  | some (_, .inl n) => some n
  | _ => none
def jm_loop {σ ε : Type} (f : σ → Option (σ ⊕ ε)) : Nat → σ → Option ε
  | 0, _ => none
  | n + 1, s => match f s with
    | some (.inl s') => jm_loop f n s'
    | some (.inr e) => some e
    | none => none
theorem jm_N_ex : ∃ n : Nat, n = 1000000 := ⟨_, rfl⟩
noncomputable def jm_N : Nat := Classical.choose jm_N_ex
theorem jm_N_eq : jm_N = 1000000 := Classical.choose_spec jm_N_ex
def jm_SL : Nat → Int32 := fun k => if k = 0 then 97 else if k = 1 then 108 else if k = 2 then 99 else if k = 3 then 116 else if k = 4 then 100 else if k = 5 then 117 else if k = 6 then 104 else 111
/-! locals -/
def jm_lv (ls : Array Slot) (nL : Nat) (lv : jm_LV) : Prop := ls.size = nL ∧ lv_wf ls ∧ ∀ (i : Nat) (v : Value), lv[i]? = some (some v) → ls[i]? = some (.val v)
def jm_pairs (lv : jm_LV) : List (Nat × Value) := (List.range lv.length).filterMap (fun i => (lv.getD i none).map (fun v => (i, v)))
theorem jm_pairs_mem {lv : jm_LV} {i : Nat} {v : Value} (h : lv[i]? = some (some v)) : (i, v) ∈ jm_pairs lv := by
  refine List.mem_filterMap.mpr ⟨i, List.mem_range.mpr (List.getElem?_eq_some_iff.mp h).1, ?_⟩
  rw [List.getD_eq_getElem?_getD, h]
  rfl
theorem jm_pairs_of {lv : jm_LV} {q : Nat × Value} (h : q ∈ jm_pairs lv) : lv[q.1]? = some (some q.2) := by
  obtain ⟨i, -, e⟩ := List.mem_filterMap.mp h
  rw [List.getD_eq_getElem?_getD] at e
  cases hx : lv[i]? with
  | none => rw [hx] at e; cases e
  | some o =>
    rw [hx] at e
    cases o with
    | none => cases e
    | some v => cases e; exact hx
theorem jm_lv_has {ls : Array Slot} {nL : Nat} {lv : jm_LV} (h : jm_lv ls nL lv) : lv_has ls nL (jm_pairs lv) := ⟨h.1, h.2.1, fun q hq => h.2.2 _ _ (jm_pairs_of hq)⟩
def jm_c1 (lv : jm_LV) (i : Nat) : Bool := match i with
  | 0 => true
  | k + 1 => match lv[k]? with
    | some (some v) => v.category == 1
    | _ => true
theorem jm_c1_ne {lv : jm_LV} {j i : Nat} {w : Value} (h1 : jm_c1 lv i = true) (hj : lv[j]? = some (some w)) (hji : j + 1 = i) : (w.category == 2) = false := by
  subst hji
  simp only [jm_c1, hj] at h1
  rw [beq_iff_eq] at h1
  rw [h1]
  rfl
theorem jm_lv_st1 {ls : Array Slot} {nL i : Nat} {lv : jm_LV} {v : Value} (h1 : jm_c1 lv i = true) (h : lv_has ls nL ((i, v) :: (jm_pairs lv).filter (fun q => !(q.1 == i) && !(q.1 + 1 == i && q.2.category == 2)))) : jm_lv ls nL (lv.set i (some v)) := by
  refine ⟨h.1, h.2.1, fun j w hj => ?_⟩
  rw [List.getElem?_set] at hj
  split at hj
  next hij =>
    subst hij
    split at hj
    · cases hj; exact h.2.2 (i, v) List.mem_cons_self
    · cases hj
  next hij =>
    refine h.2.2 (j, w) (List.mem_cons_of_mem _ (List.mem_filter.mpr ⟨jm_pairs_mem hj, ?_⟩))
    have e1 : (j == i) = false := by simpa using fun e => hij e.symm
    by_cases hji : j + 1 = i
    · have e2 := jm_c1_ne h1 hj hji
      simp [e1, e2]
    · have e3 : (j + 1 == i) = false := by simpa using hji
      simp [e1, e3]
theorem jm_lv_st2 {ls : Array Slot} {nL i : Nat} {lv : jm_LV} {v : Value} (h1 : jm_c1 lv i = true) (h : lv_has ls nL ((i, v) :: (jm_pairs lv).filter (fun q => !(q.1 == i) && (!(q.1 == i + 1) && !(q.1 + 1 == i && q.2.category == 2))))) : jm_lv ls nL ((lv.set i (some v)).set (i + 1) none) := by
  refine ⟨h.1, h.2.1, fun j w hj => ?_⟩
  rw [List.getElem?_set] at hj
  split at hj
  next hij => split at hj <;> cases hj
  next hij2 =>
    rw [List.getElem?_set] at hj
    split at hj
    next hij =>
      subst hij
      split at hj
      · cases hj; exact h.2.2 (i, v) List.mem_cons_self
      · cases hj
    next hij =>
      refine h.2.2 (j, w) (List.mem_cons_of_mem _ (List.mem_filter.mpr ⟨jm_pairs_mem hj, ?_⟩))
      have e1 : (j == i) = false := by simpa using fun e => hij e.symm
      have e4 : (j == i + 1) = false := by simpa using fun e => hij2 e.symm
      by_cases hji : j + 1 = i
      · have e2 := jm_c1_ne h1 hj hji
        simp [e1, e2, e4]
      · have e3 : (j + 1 == i) = false := by simpa using hji
        simp [e1, e3, e4]
/-! worlds -/
theorem jm_ws_at {E : jm_Ev} {X : jm_Lay} {M : jm_M} {q : Nat} {r : (Nat × Nat) × jm_Dsc} (h : X[q]? = some r) : (jm_ws E X M)[q]? = some (jm_cell E M r) := by
  rw [jm_ws, List.getElem?_map, h]; rfl
theorem jm_ws_set {E : jm_Ev} {X : jm_Lay} (hd : jm_dj E X) {M M' : jm_M} {q : Nat} {r : (Nat × Nat) × jm_Dsc} {x : Nat × va_E} (h : X[q]? = some r) (hx : x = jm_cell E M' r) (hM : ∀ a b, ¬ (a = r.1.1 ∧ b = r.1.2) → M' a b = M a b) : (jm_ws E X M).set q x = jm_ws E X M' := by
  apply List.ext_getElem?
  intro k
  rw [List.getElem?_set]
  split
  next hk =>
    subst hk
    rw [jm_ws_at h, hx]
    have hl : q < (jm_ws E X M).length := by
      rw [jm_ws, List.length_map]
      exact (List.getElem?_eq_some_iff.mp h).1
    rw [if_pos hl]
  next hk =>
    cases hp : X[k]? with
    | none => rw [jm_ws, jm_ws, List.getElem?_map, List.getElem?_map, hp]; rfl
    | some p =>
      rw [jm_ws_at hp, jm_ws_at hp]
      have hne : ¬ (p.1.1 = r.1.1 ∧ p.1.2 = r.1.2) := fun e => hk (hd q k r p h hp (by rw [e.1, e.2]))
      have e := hM _ _ hne
      rw [jm_cell, jm_cell, e]
theorem jm_D_of {E : jm_Ev} {X : jm_Lay} (hd : jm_dj E X) (M : jm_M) : va_D (jm_A E X) (jm_ws E X M) := by
  have key : ∀ (k : Nat) (p : Nat × va_E), (jm_ws E X M)[k]? = some p → ∃ r, X[k]? = some r ∧ p.1 = jm_a E r.1.1 r.1.2 := by
    intro k p h
    rw [jm_ws, List.getElem?_map] at h
    cases hr : X[k]? with
    | none => rw [hr] at h; cases h
    | some r => rw [hr] at h; cases h; exact ⟨r, rfl, rfl⟩
  refine ⟨fun i j p q hp hq e => ?_, fun k q h => ?_⟩
  · obtain ⟨r1, h1, e1⟩ := key i p hp
    obtain ⟨r2, h2, e2⟩ := key j q hq
    exact hd i j r1 r2 h1 h2 (by rw [← e1, ← e2, e])
  · obtain ⟨r, h1, e1⟩ := key k q h
    exact ⟨r, List.mem_of_getElem? h1, e1⟩
theorem jm_fv_int {E : jm_Ev} {f : Nat → Int32} (fs : List (Option (Nat × Nat))) : ∀ (c k : Nat), fs[k]? = some none → (jm_fv E f fs c)[k]? = some (.int (f (c + k))) := by
  induction fs with
  | nil => intro c k h; simp at h
  | cons o r ih =>
    intro c k h
    cases k with
    | zero => simp only [List.getElem?_cons_zero, Option.some.injEq] at h; subst h; simp [jm_fv]
    | succ k =>
      simp only [List.getElem?_cons_succ] at h
      have h2 := ih (c + 1) k h
      rw [show c + 1 + k = c + (k + 1) by omega] at h2
      cases o with
      | none => simpa [jm_fv] using h2
      | some q => simpa [jm_fv] using h2
theorem jm_fv_ref {E : jm_Ev} {f : Nat → Int32} (fs : List (Option (Nat × Nat))) : ∀ (c k : Nat) {q : Nat × Nat}, fs[k]? = some (some q) → (jm_fv E f fs c)[k]? = some (.ref (jm_a E q.1 q.2)) := by
  induction fs with
  | nil => intro c k q h; simp at h
  | cons o r ih =>
    intro c k q h
    cases k with
    | zero => simp only [List.getElem?_cons_zero, Option.some.injEq] at h; subst h; simp [jm_fv]
    | succ k =>
      simp only [List.getElem?_cons_succ] at h
      have h2 := ih (c + 1) k h
      cases o with
      | none => simpa [jm_fv] using h2
      | some q => simpa [jm_fv] using h2
theorem jm_fv_len {E : jm_Ev} {f : Nat → Int32} (fs : List (Option (Nat × Nat))) : ∀ c, (jm_fv E f fs c).length = fs.length := by
  induction fs with
  | nil => intro c; rfl
  | cons o r ih =>
    intro c
    cases o <;> simp [jm_fv, ih]
theorem jm_fv_set {E : jm_Ev} {f : Nat → Int32} {v : Int32} (fs : List (Option (Nat × Nat))) : ∀ (c k : Nat), fs[k]? = some none → (jm_fv E f fs c).set k (.int v) = jm_fv E (fun j => if j = c + k then v else f j) fs c := by
  have same : ∀ (fs : List (Option (Nat × Nat))) (c d : Nat), d < c → jm_fv E (fun j => if j = d then v else f j) fs c = jm_fv E f fs c := by
    intro fs
    induction fs with
    | nil => intro c d _; rfl
    | cons o r ih =>
      intro c d h
      have h1 := ih (c + 1) d (by omega)
      have h2 : ¬ c = d := by omega
      cases o <;> simp [jm_fv, h1, h2]
  induction fs with
  | nil => intro c k h; simp at h
  | cons o r ih =>
    intro c k h
    cases k with
    | zero =>
      simp only [List.getElem?_cons_zero, Option.some.injEq] at h
      subst h
      simp [jm_fv, same r (c + 1) c (by omega)]
    | succ k =>
      simp only [List.getElem?_cons_succ] at h
      have h2 := ih (c + 1) k h
      rw [show c + 1 + k = c + (k + 1) by omega] at h2
      have h3 : ¬ c = c + (k + 1) := by omega
      cases o with
      | none => simp [jm_fv, h2, h3]
      | some q => simp [jm_fv, h2]
/-! the walk -/
def jm_Z (E : jm_Ev) (X : jm_Lay) (U : State) (H : Heap) : Prop := va_Z "WeighedInBooks$Statements" "STEP_LETTERS" "[C" (.ref (jm_tS E)) (jm_A E X) U H ∧ va_T .char (jm_tS E) 8 (fun k => .int (jm_SL k)) (jm_A E X) U H
def jm_tb : List Cond := lw_tbl.filter goodWord
def jm_W (E : jm_Ev) (X : jm_Lay) (p : Program) (e : Env) (R : Room) (s : State) (m : MethodId) (args : Array Value) (below : List Frame) (meth : Method) (c : Code) (Q : State → Prop) (nL : Nat) (pc : Nat) (lv : jm_LV) (st : List Value) (M : jm_M) : Prop :=
  ∀ (ls : Array Slot) (H : Heap) (locs : List Loc), jm_lv ls nL lv → va_P (jm_D E) jm_cl (jm_ws E X M) H → va_S (jm_A E X) s.heap H locs → W p (jm_l E) e R s m args below meth c H locs 0 0 Q (F0 m pc ls st)
def jm_Qz (E : jm_Ev) (X : jm_Lay) (z : Option Value → jm_M → Prop) : Array Value → State → Outcome → State → Prop := fun _ st oc t => (∃ (v : Option Value) (M : jm_M), oc = .returned v ∧ z v M ∧ va_P (jm_D E) jm_cl (jm_ws E X M) t.heap) ∧ va_F (jm_A E X) st t
def jm_F (E : jm_Ev) (X : jm_Lay) (own : String) (cc : ByteArray) (nL : Nat) (ret : Option FieldType) (d n : Nat) (z : Option Value → jm_M → Prop) (w : Nat → jm_LV → List Value → jm_M → Prop) : Prop :=
  ∃ (p : Program) (e : Env) (s : State) (m : MethodId) (args : Array Value) (below : List Frame) (meth : Method) (c : Code),
    w = jm_W E X p e ({ frames := d, cells := 0, slots := 0, locals := n } : Room) s m args below meth c (MQ below (jm_Qz E X z) args s 0 0 (jm_A E X)) nL ∧
    p.tables.exec = Jvm.exec ∧ c.code = cc ∧ c.maxLocals = nL ∧ s.vm.findClass own = some m.cls ∧ (∀ w ∈ jm_tb, w.before args s = true) ∧ meth.sig.returnType = ret ∧ meth.locks = false ∧
    va_K (jm_D E) jm_cl (jm_tys E) s ∧ jm_dj E X ∧ jm_Z E X s s.heap
def jm_G {τ : Type} (w : Nat → jm_LV → List Value → jm_M → Prop) (pc : Nat) (lv : jm_LV) (st : List Value) (M : jm_M) (o : Option τ) (K : τ → Prop) : Prop := ∀ r, o = some r → K r → w pc lv st M
def jm_d (cc : ByteArray) (pc : Nat) (i : Instr) (len nxt : Nat) : Prop := decode cc pc = .ok (i, len) ∧ pc + len = nxt
def jm_b (cc : ByteArray) (pc : Nat) (i : Int → Instr) (nxt tgt : Nat) : Prop := ∃ off : Int, decode cc pc = .ok (i off, 3) ∧ pc + 3 = nxt ∧ (pc : Int) + off = (tgt : Int)
def jm_obj (X : jm_Lay) (t ci : Nat) (fs : List (Option (Nat × Nat))) : Prop := ∃ q : Nat, X[q]? = some (((t, 0), Sum.inr (Sum.inl (ci, fs))) : (Nat × Nat) × jm_Dsc)
def jm_arr (X : jm_Lay) (t j n : Nat) : Prop := ∃ q : Nat, X[q]? = some (((t, j), Sum.inl n) : (Nat × Nat) × jm_Dsc)
def jm_rar (X : jm_Lay) (t j : Nat) (rs : List (Nat × Nat)) : Prop := ∃ q : Nat, X[q]? = some (((t, j), Sum.inr (Sum.inr rs)) : (Nat × Nat) × jm_Dsc)
def jm_Fl (own : String) (index ci k : Nat) : Prop := ∃ (C : String) (T : u_T) (N : Nat), jm_cl[ci]? = some (C, T, N) ∧ k < N ∧ (∀ w ∈ u_ws C T N, w ∈ jm_tb) ∧ Cond.fieldLink own index (T k).1 (T k).2.1 (T k).2.2.1 ∈ jm_tb
def jm_Fp (own : String) (index ci k : Nat) (ty : FieldType) : Prop := ∃ (C : String) (T : u_T) (N : Nat) (ty0 : Nat → FieldType), jm_cl[ci]? = some (C, T, N) ∧ k < N ∧ (∀ w ∈ u_ws C T N, w ∈ jm_tb) ∧ Cond.fieldLink own index (T k).1 (T k).2.1 (T k).2.2.1 ∈ jm_tb ∧ (∀ k, k < N → parseFieldDescriptor (T k).2.2.1 = some (ty0 k)) ∧ (∀ a, a < N → ∀ b, b < N → a ≠ b → (T a).2.1 ≠ (T b).2.1) ∧ (T k).2.2.2 = false ∧ parseFieldDescriptor (T k).2.2.1 = some ty

section
variable {E : jm_Ev} {X : jm_Lay} {own : String} {cc : ByteArray} {nL d n : Nat} {ret : Option FieldType} {z : Option Value → jm_M → Prop} {w : Nat → jm_LV → List Value → jm_M → Prop}
variable {τ : Type} {pc pc' : Nat} {lv : jm_LV} {st : List Value} {M : jm_M} {o : Option τ} {K : τ → Prop}

theorem jm_iconst {q : Int} {v : Int32} (F : jm_F E X own cc nL ret d n z w) (hd : jm_d cc pc (.iconst q) 1 pc') (hv : Int32.ofInt q = v) (k : jm_G w pc' lv (.int v :: st) M o K) : jm_G w pc lv (st) M o K := by
  intro r h1 h2
  have k := k r h1 h2
  obtain ⟨p, e, s, m, args, below, meth, c, rfl, hx, hb, hml, hown, hts, hr, hlk, hK, hdj, hZ⟩ := F
  obtain ⟨hd, rfl⟩ := hd
  intro ls H locs hl hP hS
  exact lv_iconst hx hb hd hv (k ls H locs hl hP hS)
theorem jm_bipush {q : Int} {v : Int32} (F : jm_F E X own cc nL ret d n z w) (hd : jm_d cc pc (.bipush q) 2 pc') (hv : (Int8.ofInt q).toInt32 = v) (k : jm_G w pc' lv (.int v :: st) M o K) : jm_G w pc lv (st) M o K := by
  intro r h1 h2
  have k := k r h1 h2
  obtain ⟨p, e, s, m, args, below, meth, c, rfl, hx, hb, hml, hown, hts, hr, hlk, hK, hdj, hZ⟩ := F
  obtain ⟨hd, rfl⟩ := hd
  intro ls H locs hl hP hS
  exact lv_bipush hx hb hd hv (k ls H locs hl hP hS)
theorem jm_sipush {q : Int} {v : Int32} (F : jm_F E X own cc nL ret d n z w) (hd : jm_d cc pc (.sipush q) 3 pc') (hv : (Int16.ofInt q).toInt32 = v) (k : jm_G w pc' lv (.int v :: st) M o K) : jm_G w pc lv (st) M o K := by
  intro r h1 h2
  have k := k r h1 h2
  obtain ⟨p, e, s, m, args, below, meth, c, rfl, hx, hb, hml, hown, hts, hr, hlk, hK, hdj, hZ⟩ := F
  obtain ⟨hd, rfl⟩ := hd
  intro ls H locs hl hP hS
  exact lv_sipush hx hb hd hv (k ls H locs hl hP hS)
theorem jm_lconst {q : Fin 2} {v : Int64} (F : jm_F E X own cc nL ret d n z w) (hd : jm_d cc pc (.lconst q) 1 pc') (hv : Int64.ofNat (q : Nat) = v) (k : jm_G w pc' lv (.long v :: st) M o K) : jm_G w pc lv (st) M o K := by
  intro r h1 h2
  have k := k r h1 h2
  obtain ⟨p, e, s, m, args, below, meth, c, rfl, hx, hb, hml, hown, hts, hr, hlk, hK, hdj, hZ⟩ := F
  obtain ⟨hd, rfl⟩ := hd
  intro ls H locs hl hP hS
  exact lv_lconst hx hb hd hv (k ls H locs hl hP hS)
theorem jm_iload_n {q : Fin 4} {i : Nat} {x : Int32} (F : jm_F E X own cc nL ret d n z w) (hd : jm_d cc pc (.iload_n q) 1 pc') (hi : (q : Nat) = i) (hv : lv[i]? = some (some (.int x))) (k : jm_G w pc' lv (.int x :: st) M o K) : jm_G w pc lv (st) M o K := by
  intro r h1 h2
  have k := k r h1 h2
  obtain ⟨p, e, s, m, args, below, meth, c, rfl, hx, hb, hml, hown, hts, hr, hlk, hK, hdj, hZ⟩ := F
  obtain ⟨hd, rfl⟩ := hd
  intro ls H locs hl hP hS
  exact lv_iload_n hx hb hd hi (hl.2.2 i _ hv) (k ls H locs hl hP hS)
theorem jm_iload {i : Nat} {x : Int32} (F : jm_F E X own cc nL ret d n z w) (hd : jm_d cc pc (.iload i) 2 pc') (hv : lv[i]? = some (some (.int x))) (k : jm_G w pc' lv (.int x :: st) M o K) : jm_G w pc lv (st) M o K := by
  intro r h1 h2
  have k := k r h1 h2
  obtain ⟨p, e, s, m, args, below, meth, c, rfl, hx, hb, hml, hown, hts, hr, hlk, hK, hdj, hZ⟩ := F
  obtain ⟨hd, rfl⟩ := hd
  intro ls H locs hl hP hS
  exact lv_iload hx hb hd (hl.2.2 i _ hv) (k ls H locs hl hP hS)
theorem jm_lload_n {q : Fin 4} {i : Nat} {x : Int64} (F : jm_F E X own cc nL ret d n z w) (hd : jm_d cc pc (.lload_n q) 1 pc') (hi : (q : Nat) = i) (hv : lv[i]? = some (some (.long x))) (k : jm_G w pc' lv (.long x :: st) M o K) : jm_G w pc lv (st) M o K := by
  intro r h1 h2
  have k := k r h1 h2
  obtain ⟨p, e, s, m, args, below, meth, c, rfl, hx, hb, hml, hown, hts, hr, hlk, hK, hdj, hZ⟩ := F
  obtain ⟨hd, rfl⟩ := hd
  intro ls H locs hl hP hS
  exact lv_lload_n hx hb hd hi (hl.2.2 i _ hv) (k ls H locs hl hP hS)
theorem jm_lload {i : Nat} {x : Int64} (F : jm_F E X own cc nL ret d n z w) (hd : jm_d cc pc (.lload i) 2 pc') (hv : lv[i]? = some (some (.long x))) (k : jm_G w pc' lv (.long x :: st) M o K) : jm_G w pc lv (st) M o K := by
  intro r h1 h2
  have k := k r h1 h2
  obtain ⟨p, e, s, m, args, below, meth, c, rfl, hx, hb, hml, hown, hts, hr, hlk, hK, hdj, hZ⟩ := F
  obtain ⟨hd, rfl⟩ := hd
  intro ls H locs hl hP hS
  exact lv_lload hx hb hd (hl.2.2 i _ hv) (k ls H locs hl hP hS)
theorem jm_aload_n {q : Fin 4} {i : Nat} {x : Nat} (F : jm_F E X own cc nL ret d n z w) (hd : jm_d cc pc (.aload_n q) 1 pc') (hi : (q : Nat) = i) (hv : lv[i]? = some (some (.ref x))) (k : jm_G w pc' lv (.ref x :: st) M o K) : jm_G w pc lv (st) M o K := by
  intro r h1 h2
  have k := k r h1 h2
  obtain ⟨p, e, s, m, args, below, meth, c, rfl, hx, hb, hml, hown, hts, hr, hlk, hK, hdj, hZ⟩ := F
  obtain ⟨hd, rfl⟩ := hd
  intro ls H locs hl hP hS
  exact lv_aload_n hx hb hd hi (hl.2.2 i _ hv) (k ls H locs hl hP hS)
theorem jm_aload {i : Nat} {x : Nat} (F : jm_F E X own cc nL ret d n z w) (hd : jm_d cc pc (.aload i) 2 pc') (hv : lv[i]? = some (some (.ref x))) (k : jm_G w pc' lv (.ref x :: st) M o K) : jm_G w pc lv (st) M o K := by
  intro r h1 h2
  have k := k r h1 h2
  obtain ⟨p, e, s, m, args, below, meth, c, rfl, hx, hb, hml, hown, hts, hr, hlk, hK, hdj, hZ⟩ := F
  obtain ⟨hd, rfl⟩ := hd
  intro ls H locs hl hP hS
  exact lv_aload hx hb hd (hl.2.2 i _ hv) (k ls H locs hl hP hS)
theorem jm_iadd {x y : Int32} (F : jm_F E X own cc nL ret d n z w) (hd : jm_d cc pc (.iadd) 1 pc') (k : jm_G w pc' lv (.int (x + y) :: st) M o K) : jm_G w pc lv (.int y :: .int x :: st) M o K := by
  intro r h1 h2
  have k := k r h1 h2
  obtain ⟨p, e, s, m, args, below, meth, c, rfl, hx, hb, hml, hown, hts, hr, hlk, hK, hdj, hZ⟩ := F
  obtain ⟨hd, rfl⟩ := hd
  intro ls H locs hl hP hS
  exact lv_iadd hx hb hd (k ls H locs hl hP hS)
theorem jm_isub {x y : Int32} (F : jm_F E X own cc nL ret d n z w) (hd : jm_d cc pc (.isub) 1 pc') (k : jm_G w pc' lv (.int (x - y) :: st) M o K) : jm_G w pc lv (.int y :: .int x :: st) M o K := by
  intro r h1 h2
  have k := k r h1 h2
  obtain ⟨p, e, s, m, args, below, meth, c, rfl, hx, hb, hml, hown, hts, hr, hlk, hK, hdj, hZ⟩ := F
  obtain ⟨hd, rfl⟩ := hd
  intro ls H locs hl hP hS
  exact lv_isub hx hb hd (k ls H locs hl hP hS)
theorem jm_imul {x y : Int32} (F : jm_F E X own cc nL ret d n z w) (hd : jm_d cc pc (.imul) 1 pc') (k : jm_G w pc' lv (.int (x * y) :: st) M o K) : jm_G w pc lv (.int y :: .int x :: st) M o K := by
  intro r h1 h2
  have k := k r h1 h2
  obtain ⟨p, e, s, m, args, below, meth, c, rfl, hx, hb, hml, hown, hts, hr, hlk, hK, hdj, hZ⟩ := F
  obtain ⟨hd, rfl⟩ := hd
  intro ls H locs hl hP hS
  exact lv_imul hx hb hd (k ls H locs hl hP hS)
theorem jm_iand {x y : Int32} (F : jm_F E X own cc nL ret d n z w) (hd : jm_d cc pc (.iand) 1 pc') (k : jm_G w pc' lv (.int (x &&& y) :: st) M o K) : jm_G w pc lv (.int y :: .int x :: st) M o K := by
  intro r h1 h2
  have k := k r h1 h2
  obtain ⟨p, e, s, m, args, below, meth, c, rfl, hx, hb, hml, hown, hts, hr, hlk, hK, hdj, hZ⟩ := F
  obtain ⟨hd, rfl⟩ := hd
  intro ls H locs hl hP hS
  exact lv_iand hx hb hd (k ls H locs hl hP hS)
theorem jm_ior {x y : Int32} (F : jm_F E X own cc nL ret d n z w) (hd : jm_d cc pc (.ior) 1 pc') (k : jm_G w pc' lv (.int (x ||| y) :: st) M o K) : jm_G w pc lv (.int y :: .int x :: st) M o K := by
  intro r h1 h2
  have k := k r h1 h2
  obtain ⟨p, e, s, m, args, below, meth, c, rfl, hx, hb, hml, hown, hts, hr, hlk, hK, hdj, hZ⟩ := F
  obtain ⟨hd, rfl⟩ := hd
  intro ls H locs hl hP hS
  exact lv_ior hx hb hd (k ls H locs hl hP hS)
theorem jm_ixor {x y : Int32} (F : jm_F E X own cc nL ret d n z w) (hd : jm_d cc pc (.ixor) 1 pc') (k : jm_G w pc' lv (.int (x ^^^ y) :: st) M o K) : jm_G w pc lv (.int y :: .int x :: st) M o K := by
  intro r h1 h2
  have k := k r h1 h2
  obtain ⟨p, e, s, m, args, below, meth, c, rfl, hx, hb, hml, hown, hts, hr, hlk, hK, hdj, hZ⟩ := F
  obtain ⟨hd, rfl⟩ := hd
  intro ls H locs hl hP hS
  exact lv_ixor hx hb hd (k ls H locs hl hP hS)
theorem jm_ishl {x y : Int32} (F : jm_F E X own cc nL ret d n z w) (hd : jm_d cc pc (.ishl) 1 pc') (k : jm_G w pc' lv (.int (x <<< (y &&& 31)) :: st) M o K) : jm_G w pc lv (.int y :: .int x :: st) M o K := by
  intro r h1 h2
  have k := k r h1 h2
  obtain ⟨p, e, s, m, args, below, meth, c, rfl, hx, hb, hml, hown, hts, hr, hlk, hK, hdj, hZ⟩ := F
  obtain ⟨hd, rfl⟩ := hd
  intro ls H locs hl hP hS
  exact lv_ishl hx hb hd (k ls H locs hl hP hS)
theorem jm_ishr {x y : Int32} (F : jm_F E X own cc nL ret d n z w) (hd : jm_d cc pc (.ishr) 1 pc') (k : jm_G w pc' lv (.int (x >>> (y &&& 31)) :: st) M o K) : jm_G w pc lv (.int y :: .int x :: st) M o K := by
  intro r h1 h2
  have k := k r h1 h2
  obtain ⟨p, e, s, m, args, below, meth, c, rfl, hx, hb, hml, hown, hts, hr, hlk, hK, hdj, hZ⟩ := F
  obtain ⟨hd, rfl⟩ := hd
  intro ls H locs hl hP hS
  exact lv_ishr hx hb hd (k ls H locs hl hP hS)
theorem jm_ladd {x y : Int64} (F : jm_F E X own cc nL ret d n z w) (hd : jm_d cc pc (.ladd) 1 pc') (k : jm_G w pc' lv (.long (x + y) :: st) M o K) : jm_G w pc lv (.long y :: .long x :: st) M o K := by
  intro r h1 h2
  have k := k r h1 h2
  obtain ⟨p, e, s, m, args, below, meth, c, rfl, hx, hb, hml, hown, hts, hr, hlk, hK, hdj, hZ⟩ := F
  obtain ⟨hd, rfl⟩ := hd
  intro ls H locs hl hP hS
  exact lv_ladd hx hb hd (k ls H locs hl hP hS)
theorem jm_lsub {x y : Int64} (F : jm_F E X own cc nL ret d n z w) (hd : jm_d cc pc (.lsub) 1 pc') (k : jm_G w pc' lv (.long (x - y) :: st) M o K) : jm_G w pc lv (.long y :: .long x :: st) M o K := by
  intro r h1 h2
  have k := k r h1 h2
  obtain ⟨p, e, s, m, args, below, meth, c, rfl, hx, hb, hml, hown, hts, hr, hlk, hK, hdj, hZ⟩ := F
  obtain ⟨hd, rfl⟩ := hd
  intro ls H locs hl hP hS
  exact lv_lsub hx hb hd (k ls H locs hl hP hS)
theorem jm_lmul {x y : Int64} (F : jm_F E X own cc nL ret d n z w) (hd : jm_d cc pc (.lmul) 1 pc') (k : jm_G w pc' lv (.long (x * y) :: st) M o K) : jm_G w pc lv (.long y :: .long x :: st) M o K := by
  intro r h1 h2
  have k := k r h1 h2
  obtain ⟨p, e, s, m, args, below, meth, c, rfl, hx, hb, hml, hown, hts, hr, hlk, hK, hdj, hZ⟩ := F
  obtain ⟨hd, rfl⟩ := hd
  intro ls H locs hl hP hS
  exact lv_lmul hx hb hd (k ls H locs hl hP hS)
theorem jm_iushr {x y : Int32} (F : jm_F E X own cc nL ret d n z w) (hd : jm_d cc pc (.iushr) 1 pc') (k : jm_G w pc' lv (.int (x.toUInt32 >>> (y.toUInt32 &&& Int32.toUInt32 31)).toInt32 :: st) M o K) : jm_G w pc lv (.int y :: .int x :: st) M o K := by
  intro r h1 h2
  have k := k r h1 h2
  obtain ⟨p, e, s, m, args, below, meth, c, rfl, hx, hb, hml, hown, hts, hr, hlk, hK, hdj, hZ⟩ := F
  obtain ⟨hd, rfl⟩ := hd
  intro ls H locs hl hP hS
  exact lv_iushr hx hb hd rfl (k ls H locs hl hP hS)
theorem jm_ineg {x : Int32} (F : jm_F E X own cc nL ret d n z w) (hd : jm_d cc pc (.ineg) 1 pc') (k : jm_G w pc' lv (.int (-x) :: st) M o K) : jm_G w pc lv (.int x :: st) M o K := by
  intro r h1 h2
  have k := k r h1 h2
  obtain ⟨p, e, s, m, args, below, meth, c, rfl, hx, hb, hml, hown, hts, hr, hlk, hK, hdj, hZ⟩ := F
  obtain ⟨hd, rfl⟩ := hd
  intro ls H locs hl hP hS
  exact lv_ineg hx hb hd (k ls H locs hl hP hS)
theorem jm_i2l {x : Int32} (F : jm_F E X own cc nL ret d n z w) (hd : jm_d cc pc (.i2l) 1 pc') (k : jm_G w pc' lv (.long x.toInt64 :: st) M o K) : jm_G w pc lv (.int x :: st) M o K := by
  intro r h1 h2
  have k := k r h1 h2
  obtain ⟨p, e, s, m, args, below, meth, c, rfl, hx, hb, hml, hown, hts, hr, hlk, hK, hdj, hZ⟩ := F
  obtain ⟨hd, rfl⟩ := hd
  intro ls H locs hl hP hS
  exact lv_i2l hx hb hd rfl (k ls H locs hl hP hS)
theorem jm_lcmp {x y : Int64} (F : jm_F E X own cc nL ret d n z w) (hd : jm_d cc pc (.lcmp) 1 pc') (k : jm_G w pc' lv (.int (lg_cmp x y) :: st) M o K) : jm_G w pc lv (.long y :: .long x :: st) M o K := by
  intro r h1 h2
  have k := k r h1 h2
  obtain ⟨p, e, s, m, args, below, meth, c, rfl, hx, hb, hml, hown, hts, hr, hlk, hK, hdj, hZ⟩ := F
  obtain ⟨hd, rfl⟩ := hd
  intro ls H locs hl hP hS
  exact W.lcmp hx hb hd (k ls H locs hl hP hS)
theorem jm_dup {v : Value} (F : jm_F E X own cc nL ret d n z w) (hd : jm_d cc pc (.dup) 1 pc') (hv : v.category = 1) (k : jm_G w pc' lv (v :: v :: st) M o K) : jm_G w pc lv (v :: st) M o K := by
  intro r h1 h2
  have k := k r h1 h2
  obtain ⟨p, e, s, m, args, below, meth, c, rfl, hx, hb, hml, hown, hts, hr, hlk, hK, hdj, hZ⟩ := F
  obtain ⟨hd, rfl⟩ := hd
  intro ls H locs hl hP hS
  exact lv_dup hx hb hd hv (k ls H locs hl hP hS)
theorem jm_dup2 {u v : Value} (F : jm_F E X own cc nL ret d n z w) (hd : jm_d cc pc (.dup2) 1 pc') (hu : u.category = 1) (hv : v.category = 1) (k : jm_G w pc' lv (u :: v :: u :: v :: st) M o K) : jm_G w pc lv (u :: v :: st) M o K := by
  intro r h1 h2
  have k := k r h1 h2
  obtain ⟨p, e, s, m, args, below, meth, c, rfl, hx, hb, hml, hown, hts, hr, hlk, hK, hdj, hZ⟩ := F
  obtain ⟨hd, rfl⟩ := hd
  intro ls H locs hl hP hS
  exact lv_dup2_11 hx hb hd hu hv (k ls H locs hl hP hS)
theorem jm_pop {v : Value} (F : jm_F E X own cc nL ret d n z w) (hd : jm_d cc pc (.pop) 1 pc') (hv : v.category = 1) (k : jm_G w pc' lv (st) M o K) : jm_G w pc lv (v :: st) M o K := by
  intro r h1 h2
  have k := k r h1 h2
  obtain ⟨p, e, s, m, args, below, meth, c, rfl, hx, hb, hml, hown, hts, hr, hlk, hK, hdj, hZ⟩ := F
  obtain ⟨hd, rfl⟩ := hd
  intro ls H locs hl hP hS
  exact lv_pop hx hb hd hv (k ls H locs hl hP hS)
theorem jm_ldc {q : Nat} {v : Int32} (F : jm_F E X own cc nL ret d n z w) (hd : jm_d cc pc (.ldc q) 2 pc') (hv : Cond.constant own q v ∈ jm_tb) (k : jm_G w pc' lv (.int v :: st) M o K) : jm_G w pc lv (st) M o K := by
  intro r h1 h2
  have k := k r h1 h2
  obtain ⟨p, e, s, m, args, below, meth, c, rfl, hx, hb, hml, hown, hts, hr, hlk, hK, hdj, hZ⟩ := F
  obtain ⟨hd, rfl⟩ := hd
  intro ls H locs hl hP hS
  exact lv_ldc hx hb hown (hts _ hv) hd (k ls H locs hl hP hS)
theorem jm_ldcw {q : Nat} {v : Int32} (F : jm_F E X own cc nL ret d n z w) (hd : jm_d cc pc (.ldc_w q) 3 pc') (hv : Cond.constant own q v ∈ jm_tb) (k : jm_G w pc' lv (.int v :: st) M o K) : jm_G w pc lv (st) M o K := by
  intro r h1 h2
  have k := k r h1 h2
  obtain ⟨p, e, s, m, args, below, meth, c, rfl, hx, hb, hml, hown, hts, hr, hlk, hK, hdj, hZ⟩ := F
  obtain ⟨hd, rfl⟩ := hd
  intro ls H locs hl hP hS
  exact lv_ldcw hx hb hown (hts _ hv) hd (k ls H locs hl hP hS)
theorem jm_ldc2 {q : Nat} {v : Int64} (F : jm_F E X own cc nL ret d n z w) (hd : jm_d cc pc (.ldc2_w q) 3 pc') (hv : Cond.constantLong own q v ∈ jm_tb) (k : jm_G w pc' lv (.long v :: st) M o K) : jm_G w pc lv (st) M o K := by
  intro r h1 h2
  have k := k r h1 h2
  obtain ⟨p, e, s, m, args, below, meth, c, rfl, hx, hb, hml, hown, hts, hr, hlk, hK, hdj, hZ⟩ := F
  obtain ⟨hd, rfl⟩ := hd
  intro ls H locs hl hP hS
  exact lv_ldc2 hx hb hown (hts _ hv) hd (k ls H locs hl hP hS)
theorem jm_idiv {x y : Int32} {g : Int32 → Option τ} (F : jm_F E X own cc nL ret d n z w) (hd : jm_d cc pc .idiv 1 pc') (k : ∀ v, jm_G w pc' lv (.int v :: st) M (g v) K) : jm_G w pc lv (.int y :: .int x :: st) M ((jm_dv x y).bind g) K := by
  intro r h1 h2
  unfold jm_dv at h1
  split at h1
  · cases h1
  next hy =>
  have k := k _ r h1 h2
  obtain ⟨p, e, s, m, args, below, meth, c, rfl, hx, hb, hml, hown, hts, hr, hlk, hK, hdj, hZ⟩ := F
  obtain ⟨hd, rfl⟩ := hd
  intro ls H locs hl hP hS
  exact lv_idiv hx hb hd hy (k ls H locs hl hP hS)
theorem jm_irem {x y : Int32} {g : Int32 → Option τ} (F : jm_F E X own cc nL ret d n z w) (hd : jm_d cc pc .irem 1 pc') (k : ∀ v, jm_G w pc' lv (.int v :: st) M (g v) K) : jm_G w pc lv (.int y :: .int x :: st) M ((jm_rm x y).bind g) K := by
  intro r h1 h2
  unfold jm_rm at h1
  split at h1
  · cases h1
  next hy =>
  have k := k _ r h1 h2
  obtain ⟨p, e, s, m, args, below, meth, c, rfl, hx, hb, hml, hown, hts, hr, hlk, hK, hdj, hZ⟩ := F
  obtain ⟨hd, rfl⟩ := hd
  intro ls H locs hl hP hS
  exact lv_irem hx hb hd hy (k ls H locs hl hP hS)
theorem jm_ldiv {x y : Int64} {g : Int64 → Option τ} (F : jm_F E X own cc nL ret d n z w) (hd : jm_d cc pc .ldiv 1 pc') (k : ∀ v, jm_G w pc' lv (.long v :: st) M (g v) K) : jm_G w pc lv (.long y :: .long x :: st) M ((jm_ldv x y).bind g) K := by
  intro r h1 h2
  unfold jm_ldv at h1
  split at h1
  · cases h1
  next hy =>
  have k := k _ r h1 h2
  obtain ⟨p, e, s, m, args, below, meth, c, rfl, hx, hb, hml, hown, hts, hr, hlk, hK, hdj, hZ⟩ := F
  obtain ⟨hd, rfl⟩ := hd
  intro ls H locs hl hP hS
  exact lv_ldiv hx hb hd hy (k ls H locs hl hP hS)
theorem jm_lrem {x y : Int64} {g : Int64 → Option τ} (F : jm_F E X own cc nL ret d n z w) (hd : jm_d cc pc .lrem 1 pc') (k : ∀ v, jm_G w pc' lv (.long v :: st) M (g v) K) : jm_G w pc lv (.long y :: .long x :: st) M ((jm_lrm x y).bind g) K := by
  intro r h1 h2
  unfold jm_lrm at h1
  split at h1
  · cases h1
  next hy =>
  have k := k _ r h1 h2
  obtain ⟨p, e, s, m, args, below, meth, c, rfl, hx, hb, hml, hown, hts, hr, hlk, hK, hdj, hZ⟩ := F
  obtain ⟨hd, rfl⟩ := hd
  intro ls H locs hl hP hS
  exact lv_lrem hx hb hd hy (k ls H locs hl hP hS)
theorem jm_istore_n {q : Fin 4} {i : Nat} {x : Int32} {lv' : jm_LV} (F : jm_F E X own cc nL ret d n z w) (hd : jm_d cc pc (.istore_n q) 1 pc') (hi : (q : Nat) = i) (hn : i < nL) (hc : jm_c1 lv i = true) (hs : lv.set i (some (.int x)) = lv') (k : jm_G w pc' lv' st M o K) : jm_G w pc lv (.int x :: st) M o K := by
  intro r h1 h2
  have k := k r h1 h2
  obtain ⟨p, e, s, m, args, below, meth, c, rfl, hx, hb, hml, hown, hts, hr, hlk, hK, hdj, hZ⟩ := F
  obtain ⟨hd, rfl⟩ := hd
  subst hs
  intro ls H locs hl hP hS
  exact lv_istore_n hx hb hd hi (jm_lv_has hl) hn rfl (fun ls' hl' => k ls' H locs (jm_lv_st1 hc hl') hP hS)
theorem jm_istore {i : Nat} {x : Int32} {lv' : jm_LV} (F : jm_F E X own cc nL ret d n z w) (hd : jm_d cc pc (.istore i) 2 pc') (hn : i < nL) (hc : jm_c1 lv i = true) (hs : lv.set i (some (.int x)) = lv') (k : jm_G w pc' lv' st M o K) : jm_G w pc lv (.int x :: st) M o K := by
  intro r h1 h2
  have k := k r h1 h2
  obtain ⟨p, e, s, m, args, below, meth, c, rfl, hx, hb, hml, hown, hts, hr, hlk, hK, hdj, hZ⟩ := F
  obtain ⟨hd, rfl⟩ := hd
  subst hs
  intro ls H locs hl hP hS
  exact lv_istore hx hb hd (jm_lv_has hl) hn rfl (fun ls' hl' => k ls' H locs (jm_lv_st1 hc hl') hP hS)
theorem jm_astore_n {q : Fin 4} {i : Nat} {x : Nat} {lv' : jm_LV} (F : jm_F E X own cc nL ret d n z w) (hd : jm_d cc pc (.astore_n q) 1 pc') (hi : (q : Nat) = i) (hn : i < nL) (hc : jm_c1 lv i = true) (hs : lv.set i (some (.ref x)) = lv') (k : jm_G w pc' lv' st M o K) : jm_G w pc lv (.ref x :: st) M o K := by
  intro r h1 h2
  have k := k r h1 h2
  obtain ⟨p, e, s, m, args, below, meth, c, rfl, hx, hb, hml, hown, hts, hr, hlk, hK, hdj, hZ⟩ := F
  obtain ⟨hd, rfl⟩ := hd
  subst hs
  intro ls H locs hl hP hS
  exact lv_astore_n hx hb hd hi (jm_lv_has hl) hn rfl (fun ls' hl' => k ls' H locs (jm_lv_st1 hc hl') hP hS)
theorem jm_astore {i : Nat} {x : Nat} {lv' : jm_LV} (F : jm_F E X own cc nL ret d n z w) (hd : jm_d cc pc (.astore i) 2 pc') (hn : i < nL) (hc : jm_c1 lv i = true) (hs : lv.set i (some (.ref x)) = lv') (k : jm_G w pc' lv' st M o K) : jm_G w pc lv (.ref x :: st) M o K := by
  intro r h1 h2
  have k := k r h1 h2
  obtain ⟨p, e, s, m, args, below, meth, c, rfl, hx, hb, hml, hown, hts, hr, hlk, hK, hdj, hZ⟩ := F
  obtain ⟨hd, rfl⟩ := hd
  subst hs
  intro ls H locs hl hP hS
  exact lv_astore hx hb hd (jm_lv_has hl) hn rfl (fun ls' hl' => k ls' H locs (jm_lv_st1 hc hl') hP hS)
theorem jm_lstore_n {q : Fin 4} {i : Nat} {x : Int64} {lv' : jm_LV} (F : jm_F E X own cc nL ret d n z w) (hd : jm_d cc pc (.lstore_n q) 1 pc') (hi : (q : Nat) = i) (hn : i + 1 < nL) (hc : jm_c1 lv i = true) (hs : (lv.set i (some (.long x))).set (i + 1) none = lv') (k : jm_G w pc' lv' st M o K) : jm_G w pc lv (.long x :: st) M o K := by
  intro r h1 h2
  have k := k r h1 h2
  obtain ⟨p, e, s, m, args, below, meth, c, rfl, hx, hb, hml, hown, hts, hr, hlk, hK, hdj, hZ⟩ := F
  obtain ⟨hd, rfl⟩ := hd
  subst hs
  intro ls H locs hl hP hS
  exact lv_lstore_n hx hb hd hi (jm_lv_has hl) hn rfl (fun ls' hl' => k ls' H locs (jm_lv_st2 hc hl') hP hS)
theorem jm_lstore {i : Nat} {x : Int64} {lv' : jm_LV} (F : jm_F E X own cc nL ret d n z w) (hd : jm_d cc pc (.lstore i) 2 pc') (hn : i + 1 < nL) (hc : jm_c1 lv i = true) (hs : (lv.set i (some (.long x))).set (i + 1) none = lv') (k : jm_G w pc' lv' st M o K) : jm_G w pc lv (.long x :: st) M o K := by
  intro r h1 h2
  have k := k r h1 h2
  obtain ⟨p, e, s, m, args, below, meth, c, rfl, hx, hb, hml, hown, hts, hr, hlk, hK, hdj, hZ⟩ := F
  obtain ⟨hd, rfl⟩ := hd
  subst hs
  intro ls H locs hl hP hS
  exact lv_lstore hx hb hd (jm_lv_has hl) hn rfl (fun ls' hl' => k ls' H locs (jm_lv_st2 hc hl') hP hS)
theorem jm_iinc {i : Nat} {q : Int} {x v : Int32} {lv' : jm_LV} (F : jm_F E X own cc nL ret d n z w) (hd : jm_d cc pc (.iinc i q) 3 pc') (hv : Int32.ofInt q = v) (hx0 : lv[i]? = some (some (.int x))) (hn : i < nL) (hc : jm_c1 lv i = true) (hs : lv.set i (some (.int (x + v))) = lv') (k : jm_G w pc' lv' st M o K) : jm_G w pc lv st M o K := by
  intro r h1 h2
  have k := k r h1 h2
  obtain ⟨p, e, s, m, args, below, meth, c, rfl, hx, hb, hml, hown, hts, hr, hlk, hK, hdj, hZ⟩ := F
  obtain ⟨hd, rfl⟩ := hd
  subst hs
  subst hv
  intro ls H locs hl hP hS
  obtain ⟨j, hj⟩ := List.getElem?_of_mem (jm_pairs_mem hx0)
  exact lv_iinc hx hb hd (jm_lv_has hl) hj rfl hn rfl (fun ls' hl' => k ls' H locs (jm_lv_st1 hc hl') hP hS)
theorem jm_nameI {x : Int32} {g : Int32 → Option τ} {f : Int32 → List Value} (k : ∀ x, jm_G w pc lv (f x) M (g x) K) (hs : st = f x) : jm_G w pc lv st M ((some x).bind g) K := by
  subst hs
  exact k x
theorem jm_nameL {x : Int64} {g : Int64 → Option τ} {f : Int64 → List Value} (k : ∀ x, jm_G w pc lv (f x) M (g x) K) (hs : st = f x) : jm_G w pc lv st M ((some x).bind g) K := by
  subst hs
  exact k x
theorem jm_if_eq {x : Int32} {tgt : Nat} {A B : Option τ} (F : jm_F E X own cc nL ret d n z w) (hd : jm_b cc pc (.ifCond .eq) pc' tgt) (kt : x = 0 → jm_G w tgt lv st M A K) (kf : ¬ x = 0 → jm_G w pc' lv st M B K) : jm_G w pc lv (.int x :: st) M (if x = 0 then A else B) K := by
  intro r h1 h2
  obtain ⟨off, hd, rfl, ht⟩ := hd
  by_cases hc : x = 0
  · rw [if_pos hc] at h1
    have k := kt hc r h1 h2
    obtain ⟨p, e, s, m, args, below, meth, c, rfl, hx, hb, hml, hown, hts, hr, hlk, hK, hdj, hZ⟩ := F
    intro ls H locs hl hP hS
    exact lv_if_eq hx hb hd ht (fun _ => (k ls H locs hl hP hS)) (fun h => absurd hc h)
  · rw [if_neg hc] at h1
    have k := kf hc r h1 h2
    obtain ⟨p, e, s, m, args, below, meth, c, rfl, hx, hb, hml, hown, hts, hr, hlk, hK, hdj, hZ⟩ := F
    intro ls H locs hl hP hS
    exact lv_if_eq hx hb hd ht (fun h => absurd h hc) (fun _ => (k ls H locs hl hP hS))
theorem jm_if_ne {x : Int32} {tgt : Nat} {A B : Option τ} (F : jm_F E X own cc nL ret d n z w) (hd : jm_b cc pc (.ifCond .ne) pc' tgt) (kf : x = 0 → jm_G w pc' lv st M A K) (kt : ¬ x = 0 → jm_G w tgt lv st M B K) : jm_G w pc lv (.int x :: st) M (if x = 0 then A else B) K := by
  intro r h1 h2
  obtain ⟨off, hd, rfl, ht⟩ := hd
  by_cases hc : x = 0
  · rw [if_pos hc] at h1
    have k := kf hc r h1 h2
    obtain ⟨p, e, s, m, args, below, meth, c, rfl, hx, hb, hml, hown, hts, hr, hlk, hK, hdj, hZ⟩ := F
    intro ls H locs hl hP hS
    exact lv_if_ne hx hb hd ht (fun h => absurd hc h) (fun _ => (k ls H locs hl hP hS))
  · rw [if_neg hc] at h1
    have k := kt hc r h1 h2
    obtain ⟨p, e, s, m, args, below, meth, c, rfl, hx, hb, hml, hown, hts, hr, hlk, hK, hdj, hZ⟩ := F
    intro ls H locs hl hP hS
    exact lv_if_ne hx hb hd ht (fun _ => (k ls H locs hl hP hS)) (fun h => absurd h hc)
theorem jm_if_lt {x : Int32} {tgt : Nat} {A B : Option τ} (F : jm_F E X own cc nL ret d n z w) (hd : jm_b cc pc (.ifCond .lt) pc' tgt) (kt : x < 0 → jm_G w tgt lv st M A K) (kf : ¬ x < 0 → jm_G w pc' lv st M B K) : jm_G w pc lv (.int x :: st) M (if x < 0 then A else B) K := by
  intro r h1 h2
  obtain ⟨off, hd, rfl, ht⟩ := hd
  by_cases hc : x < 0
  · rw [if_pos hc] at h1
    have k := kt hc r h1 h2
    obtain ⟨p, e, s, m, args, below, meth, c, rfl, hx, hb, hml, hown, hts, hr, hlk, hK, hdj, hZ⟩ := F
    intro ls H locs hl hP hS
    exact lv_if_lt hx hb hd ht (fun _ => (k ls H locs hl hP hS)) (fun h => absurd hc h)
  · rw [if_neg hc] at h1
    have k := kf hc r h1 h2
    obtain ⟨p, e, s, m, args, below, meth, c, rfl, hx, hb, hml, hown, hts, hr, hlk, hK, hdj, hZ⟩ := F
    intro ls H locs hl hP hS
    exact lv_if_lt hx hb hd ht (fun h => absurd h hc) (fun _ => (k ls H locs hl hP hS))
theorem jm_if_ge {x : Int32} {tgt : Nat} {A B : Option τ} (F : jm_F E X own cc nL ret d n z w) (hd : jm_b cc pc (.ifCond .ge) pc' tgt) (kt : 0 ≤ x → jm_G w tgt lv st M A K) (kf : ¬ 0 ≤ x → jm_G w pc' lv st M B K) : jm_G w pc lv (.int x :: st) M (if 0 ≤ x then A else B) K := by
  intro r h1 h2
  obtain ⟨off, hd, rfl, ht⟩ := hd
  by_cases hc : 0 ≤ x
  · rw [if_pos hc] at h1
    have k := kt hc r h1 h2
    obtain ⟨p, e, s, m, args, below, meth, c, rfl, hx, hb, hml, hown, hts, hr, hlk, hK, hdj, hZ⟩ := F
    intro ls H locs hl hP hS
    exact lv_if_ge hx hb hd ht (fun _ => (k ls H locs hl hP hS)) (fun h => absurd hc h)
  · rw [if_neg hc] at h1
    have k := kf hc r h1 h2
    obtain ⟨p, e, s, m, args, below, meth, c, rfl, hx, hb, hml, hown, hts, hr, hlk, hK, hdj, hZ⟩ := F
    intro ls H locs hl hP hS
    exact lv_if_ge hx hb hd ht (fun h => absurd h hc) (fun _ => (k ls H locs hl hP hS))
theorem jm_if_gt {x : Int32} {tgt : Nat} {A B : Option τ} (F : jm_F E X own cc nL ret d n z w) (hd : jm_b cc pc (.ifCond .gt) pc' tgt) (kt : 0 < x → jm_G w tgt lv st M A K) (kf : ¬ 0 < x → jm_G w pc' lv st M B K) : jm_G w pc lv (.int x :: st) M (if 0 < x then A else B) K := by
  intro r h1 h2
  obtain ⟨off, hd, rfl, ht⟩ := hd
  by_cases hc : 0 < x
  · rw [if_pos hc] at h1
    have k := kt hc r h1 h2
    obtain ⟨p, e, s, m, args, below, meth, c, rfl, hx, hb, hml, hown, hts, hr, hlk, hK, hdj, hZ⟩ := F
    intro ls H locs hl hP hS
    exact lv_if_gt hx hb hd ht (fun _ => (k ls H locs hl hP hS)) (fun h => absurd hc h)
  · rw [if_neg hc] at h1
    have k := kf hc r h1 h2
    obtain ⟨p, e, s, m, args, below, meth, c, rfl, hx, hb, hml, hown, hts, hr, hlk, hK, hdj, hZ⟩ := F
    intro ls H locs hl hP hS
    exact lv_if_gt hx hb hd ht (fun h => absurd h hc) (fun _ => (k ls H locs hl hP hS))
theorem jm_if_le {x : Int32} {tgt : Nat} {A B : Option τ} (F : jm_F E X own cc nL ret d n z w) (hd : jm_b cc pc (.ifCond .le) pc' tgt) (kt : x ≤ 0 → jm_G w tgt lv st M A K) (kf : ¬ x ≤ 0 → jm_G w pc' lv st M B K) : jm_G w pc lv (.int x :: st) M (if x ≤ 0 then A else B) K := by
  intro r h1 h2
  obtain ⟨off, hd, rfl, ht⟩ := hd
  by_cases hc : x ≤ 0
  · rw [if_pos hc] at h1
    have k := kt hc r h1 h2
    obtain ⟨p, e, s, m, args, below, meth, c, rfl, hx, hb, hml, hown, hts, hr, hlk, hK, hdj, hZ⟩ := F
    intro ls H locs hl hP hS
    exact lv_if_le hx hb hd ht (fun _ => (k ls H locs hl hP hS)) (fun h => absurd hc h)
  · rw [if_neg hc] at h1
    have k := kf hc r h1 h2
    obtain ⟨p, e, s, m, args, below, meth, c, rfl, hx, hb, hml, hown, hts, hr, hlk, hK, hdj, hZ⟩ := F
    intro ls H locs hl hP hS
    exact lv_if_le hx hb hd ht (fun h => absurd h hc) (fun _ => (k ls H locs hl hP hS))
theorem jm_icmp_eq {x y : Int32} {tgt : Nat} {A B : Option τ} (F : jm_F E X own cc nL ret d n z w) (hd : jm_b cc pc (.if_icmp .eq) pc' tgt) (kt : x = y → jm_G w tgt lv st M A K) (kf : ¬ x = y → jm_G w pc' lv st M B K) : jm_G w pc lv (.int y :: .int x :: st) M (if x = y then A else B) K := by
  intro r h1 h2
  obtain ⟨off, hd, rfl, ht⟩ := hd
  by_cases hc : x = y
  · rw [if_pos hc] at h1
    have k := kt hc r h1 h2
    obtain ⟨p, e, s, m, args, below, meth, c, rfl, hx, hb, hml, hown, hts, hr, hlk, hK, hdj, hZ⟩ := F
    intro ls H locs hl hP hS
    exact lv_icmp_eq hx hb hd ht (fun _ => (k ls H locs hl hP hS)) (fun h => absurd hc h)
  · rw [if_neg hc] at h1
    have k := kf hc r h1 h2
    obtain ⟨p, e, s, m, args, below, meth, c, rfl, hx, hb, hml, hown, hts, hr, hlk, hK, hdj, hZ⟩ := F
    intro ls H locs hl hP hS
    exact lv_icmp_eq hx hb hd ht (fun h => absurd h hc) (fun _ => (k ls H locs hl hP hS))
theorem jm_icmp_ne {x y : Int32} {tgt : Nat} {A B : Option τ} (F : jm_F E X own cc nL ret d n z w) (hd : jm_b cc pc (.if_icmp .ne) pc' tgt) (kf : x = y → jm_G w pc' lv st M A K) (kt : ¬ x = y → jm_G w tgt lv st M B K) : jm_G w pc lv (.int y :: .int x :: st) M (if x = y then A else B) K := by
  intro r h1 h2
  obtain ⟨off, hd, rfl, ht⟩ := hd
  by_cases hc : x = y
  · rw [if_pos hc] at h1
    have k := kf hc r h1 h2
    obtain ⟨p, e, s, m, args, below, meth, c, rfl, hx, hb, hml, hown, hts, hr, hlk, hK, hdj, hZ⟩ := F
    intro ls H locs hl hP hS
    exact lv_icmp_ne hx hb hd ht (fun h => absurd hc h) (fun _ => (k ls H locs hl hP hS))
  · rw [if_neg hc] at h1
    have k := kt hc r h1 h2
    obtain ⟨p, e, s, m, args, below, meth, c, rfl, hx, hb, hml, hown, hts, hr, hlk, hK, hdj, hZ⟩ := F
    intro ls H locs hl hP hS
    exact lv_icmp_ne hx hb hd ht (fun _ => (k ls H locs hl hP hS)) (fun h => absurd h hc)
theorem jm_icmp_lt {x y : Int32} {tgt : Nat} {A B : Option τ} (F : jm_F E X own cc nL ret d n z w) (hd : jm_b cc pc (.if_icmp .lt) pc' tgt) (kt : x < y → jm_G w tgt lv st M A K) (kf : ¬ x < y → jm_G w pc' lv st M B K) : jm_G w pc lv (.int y :: .int x :: st) M (if x < y then A else B) K := by
  intro r h1 h2
  obtain ⟨off, hd, rfl, ht⟩ := hd
  by_cases hc : x < y
  · rw [if_pos hc] at h1
    have k := kt hc r h1 h2
    obtain ⟨p, e, s, m, args, below, meth, c, rfl, hx, hb, hml, hown, hts, hr, hlk, hK, hdj, hZ⟩ := F
    intro ls H locs hl hP hS
    exact lv_icmp_lt hx hb hd ht (fun _ => (k ls H locs hl hP hS)) (fun h => absurd hc h)
  · rw [if_neg hc] at h1
    have k := kf hc r h1 h2
    obtain ⟨p, e, s, m, args, below, meth, c, rfl, hx, hb, hml, hown, hts, hr, hlk, hK, hdj, hZ⟩ := F
    intro ls H locs hl hP hS
    exact lv_icmp_lt hx hb hd ht (fun h => absurd h hc) (fun _ => (k ls H locs hl hP hS))
theorem jm_icmp_ge {x y : Int32} {tgt : Nat} {A B : Option τ} (F : jm_F E X own cc nL ret d n z w) (hd : jm_b cc pc (.if_icmp .ge) pc' tgt) (kt : y ≤ x → jm_G w tgt lv st M A K) (kf : ¬ y ≤ x → jm_G w pc' lv st M B K) : jm_G w pc lv (.int y :: .int x :: st) M (if y ≤ x then A else B) K := by
  intro r h1 h2
  obtain ⟨off, hd, rfl, ht⟩ := hd
  by_cases hc : y ≤ x
  · rw [if_pos hc] at h1
    have k := kt hc r h1 h2
    obtain ⟨p, e, s, m, args, below, meth, c, rfl, hx, hb, hml, hown, hts, hr, hlk, hK, hdj, hZ⟩ := F
    intro ls H locs hl hP hS
    exact lv_icmp_ge hx hb hd ht (fun _ => (k ls H locs hl hP hS)) (fun h => absurd hc h)
  · rw [if_neg hc] at h1
    have k := kf hc r h1 h2
    obtain ⟨p, e, s, m, args, below, meth, c, rfl, hx, hb, hml, hown, hts, hr, hlk, hK, hdj, hZ⟩ := F
    intro ls H locs hl hP hS
    exact lv_icmp_ge hx hb hd ht (fun h => absurd h hc) (fun _ => (k ls H locs hl hP hS))
theorem jm_icmp_gt {x y : Int32} {tgt : Nat} {A B : Option τ} (F : jm_F E X own cc nL ret d n z w) (hd : jm_b cc pc (.if_icmp .gt) pc' tgt) (kt : y < x → jm_G w tgt lv st M A K) (kf : ¬ y < x → jm_G w pc' lv st M B K) : jm_G w pc lv (.int y :: .int x :: st) M (if y < x then A else B) K := by
  intro r h1 h2
  obtain ⟨off, hd, rfl, ht⟩ := hd
  by_cases hc : y < x
  · rw [if_pos hc] at h1
    have k := kt hc r h1 h2
    obtain ⟨p, e, s, m, args, below, meth, c, rfl, hx, hb, hml, hown, hts, hr, hlk, hK, hdj, hZ⟩ := F
    intro ls H locs hl hP hS
    exact lv_icmp_gt hx hb hd ht (fun _ => (k ls H locs hl hP hS)) (fun h => absurd hc h)
  · rw [if_neg hc] at h1
    have k := kf hc r h1 h2
    obtain ⟨p, e, s, m, args, below, meth, c, rfl, hx, hb, hml, hown, hts, hr, hlk, hK, hdj, hZ⟩ := F
    intro ls H locs hl hP hS
    exact lv_icmp_gt hx hb hd ht (fun h => absurd h hc) (fun _ => (k ls H locs hl hP hS))
theorem jm_icmp_le {x y : Int32} {tgt : Nat} {A B : Option τ} (F : jm_F E X own cc nL ret d n z w) (hd : jm_b cc pc (.if_icmp .le) pc' tgt) (kt : x ≤ y → jm_G w tgt lv st M A K) (kf : ¬ x ≤ y → jm_G w pc' lv st M B K) : jm_G w pc lv (.int y :: .int x :: st) M (if x ≤ y then A else B) K := by
  intro r h1 h2
  obtain ⟨off, hd, rfl, ht⟩ := hd
  by_cases hc : x ≤ y
  · rw [if_pos hc] at h1
    have k := kt hc r h1 h2
    obtain ⟨p, e, s, m, args, below, meth, c, rfl, hx, hb, hml, hown, hts, hr, hlk, hK, hdj, hZ⟩ := F
    intro ls H locs hl hP hS
    exact lv_icmp_le hx hb hd ht (fun _ => (k ls H locs hl hP hS)) (fun h => absurd hc h)
  · rw [if_neg hc] at h1
    have k := kf hc r h1 h2
    obtain ⟨p, e, s, m, args, below, meth, c, rfl, hx, hb, hml, hown, hts, hr, hlk, hK, hdj, hZ⟩ := F
    intro ls H locs hl hP hS
    exact lv_icmp_le hx hb hd ht (fun h => absurd h hc) (fun _ => (k ls H locs hl hP hS))
theorem jm_goto {tgt : Nat} (F : jm_F E X own cc nL ret d n z w) (hd : jm_b cc pc .goto pc' tgt) (k : jm_G w tgt lv st M o K) : jm_G w pc lv st M o K := by
  intro r h1 h2
  have k := k r h1 h2
  obtain ⟨p, e, s, m, args, below, meth, c, rfl, hx, hb, hml, hown, hts, hr, hlk, hK, hdj, hZ⟩ := F
  obtain ⟨off, hd, -, ht⟩ := hd
  intro ls H locs hl hP hS
  exact lv_goto hx hb hd ht (k ls H locs hl hP hS)
theorem jm_ifnull {x : Nat} {tgt : Nat} (F : jm_F E X own cc nL ret d n z w) (hd : jm_b cc pc .ifnull pc' tgt) (k : jm_G w pc' lv st M o K) : jm_G w pc lv (.ref x :: st) M o K := by
  intro r h1 h2
  have k := k r h1 h2
  obtain ⟨p, e, s, m, args, below, meth, c, rfl, hx, hb, hml, hown, hts, hr, hlk, hK, hdj, hZ⟩ := F
  obtain ⟨off, hd, rfl, ht⟩ := hd
  intro ls H locs hl hP hS
  exact lv_ifnull hx hb hd (k ls H locs hl hP hS)
theorem jm_ite {c : Prop} {inst : Decidable c} {A B : Option τ} (ka : c → jm_G w pc lv st M A K) (kb : ¬ c → jm_G w pc lv st M B K) : jm_G w pc lv st M (@ite _ c inst A B) K := by
  intro r h1 h2
  by_cases hc : c
  · rw [if_pos hc] at h1
    exact ka hc r h1 h2
  · rw [if_neg hc] at h1
    exact kb hc r h1 h2
theorem jm_ne {x k : Int32} {a : Int} (h : ¬ x = k) (hk : k.toInt = a) : ¬ x.toInt = a := by
  subst hk
  exact fun e => h (Int32.toInt_inj.mp e)
theorem jm_tsw {x y : Int32} {dflt lo hi off : Int} {offs : Array Int} {len tgt : Nat} (F : jm_F E X own cc nL ret d n z w) (hd : decode cc pc = .ok (.tableswitch dflt lo hi offs, len)) (hx0 : x = y) (h1 : ¬ y.toInt < lo) (h2 : ¬ hi < y.toInt) (ho : offs[(y.toInt - lo).toNat]? = some off) (ht : (pc : Int) + off = (tgt : Int)) (k : jm_G w tgt lv st M o K) : jm_G w pc lv (.int x :: st) M o K := by
  intro r g1 g2
  have k := k r g1 g2
  obtain ⟨p, e, s, m, args, below, meth, c, rfl, hx, hb, hml, hown, hts, hr, hlk, hK, hdj, hZ⟩ := F
  subst hx0
  intro ls H locs hl hP hS
  exact lv_tableIn hx hb hd h1 h2 ho ht (k ls H locs hl hP hS)
theorem jm_tsd {x : Int32} {dflt lo hi : Int} {offs : Array Int} {len tgt : Nat} (F : jm_F E X own cc nL ret d n z w) (hd : decode cc pc = .ok (.tableswitch dflt lo hi offs, len)) (h1 : x.toInt < lo ∨ hi < x.toInt) (ht : (pc : Int) + dflt = (tgt : Int)) (k : jm_G w tgt lv st M o K) : jm_G w pc lv (.int x :: st) M o K := by
  intro r g1 g2
  have k := k r g1 g2
  obtain ⟨p, e, s, m, args, below, meth, c, rfl, hx, hb, hml, hown, hts, hr, hlk, hK, hdj, hZ⟩ := F
  intro ls H locs hl hP hS
  exact lv_tableOut hx hb hd h1 ht (k ls H locs hl hP hS)
theorem jm_lsw {x : Int32} {dflt off : Int} {ps : Array (Int × Int)} {len tgt : Nat} (F : jm_F E X own cc nL ret d n z w) (hd : decode cc pc = .ok (.lookupswitch dflt ps, len)) (hp : (ps.toList.zip (ps.toList.drop 1)).all (fun (a, next) => a.1 < next.1) = true) (ho : Op.lookupswitch.offset ps.toList dflt x.toInt = off) (ht : (pc : Int) + off = (tgt : Int)) (k : jm_G w tgt lv st M o K) : jm_G w pc lv (.int x :: st) M o K := by
  intro r g1 g2
  have k := k r g1 g2
  obtain ⟨p, e, s, m, args, below, meth, c, rfl, hx, hb, hml, hown, hts, hr, hlk, hK, hdj, hZ⟩ := F
  intro ls H locs hl hP hS
  exact lv_lookup hx hb hd hp ho ht (k ls H locs hl hP hS)
theorem jm_done {τ : Type} {pc : Nat} {lv : jm_LV} {st : List Value} {M : jm_M} {r : τ} {K : τ → Prop} (h : K r → w pc lv st M) : jm_G w pc lv st M (some r) K := by
  intro r' e hK
  cases e
  exact h hK
theorem jm_bind {τ σ : Type} {pc pcJ : Nat} {lv : jm_LV} {lvJ : σ → jm_LV} {st : List Value} {stJ : σ → List Value} {M : jm_M} {MJ : σ → jm_M} {o : Option σ} {f : σ → Option τ} {K : τ → Prop} (h1 : jm_G w pc lv st M o (fun e => w pcJ (lvJ e) (stJ e) (MJ e))) (h2 : ∀ e, jm_G w pcJ (lvJ e) (stJ e) (MJ e) (f e) K) : jm_G w pc lv st M (o.bind f) K := by
  intro r hr hK
  cases ho : o with
  | none => rw [ho] at hr; cases hr
  | some e => rw [ho] at hr; exact h1 e ho (h2 e r hr hK)
theorem jm_bindS {τ σ : Type} {pc pcJ : Nat} {lv : jm_LV} {lvJ : σ → jm_LV} {st : List Value} {stJ : σ → List Value} {M : jm_M} {MJ : σ → jm_M} {o : Option (σ ⊕ τ)} {f : σ → Option τ} {K : τ → Prop} (h1 : jm_G w pc lv st M o (Sum.elim (fun e => w pcJ (lvJ e) (stJ e) (MJ e)) K)) (h2 : ∀ e, jm_G w pcJ (lvJ e) (stJ e) (MJ e) (f e) K) : jm_G w pc lv st M (o.bind (Sum.elim f some)) K := by
  intro r hr hK
  cases ho : o with
  | none => rw [ho] at hr; cases hr
  | some e =>
    rw [ho] at hr
    cases e with
    | inl x => exact h1 _ ho (h2 x r hr hK)
    | inr x => cases hr; exact h1 _ ho hK
theorem jm_loopR {σ ε : Type} {pc : Nat} {lvH : σ → jm_LV} {MH : σ → jm_M} {f : σ → Option (σ ⊕ ε)} {C : ε → Prop} (hs : ∀ s, jm_G w pc (lvH s) [] (MH s) (f s) (Sum.elim (fun s' => w pc (lvH s') [] (MH s')) C)) : ∀ (N : Nat) (s : σ), jm_G w pc (lvH s) [] (MH s) (jm_loop f N s) C := by
  intro N
  induction N with
  | zero => intro s r h; cases h
  | succ N ih =>
    intro s r h hC
    rw [jm_loop] at h
    cases hf : f s with
    | none => rw [hf] at h; cases h
    | some x =>
      rw [hf] at h
      cases x with
      | inl s' => exact hs s _ hf (ih s' r h hC)
      | inr e => cases h; exact hs s _ hf hC
def jm_sub : jm_LV → jm_LV → Prop
  | [], _ => True
  | none :: a, [] => jm_sub a []
  | none :: a, _ :: b => jm_sub a b
  | some _ :: _, [] => False
  | some v :: a, x :: b => x = some v ∧ jm_sub a b
theorem jm_sub_at : ∀ (a b : jm_LV) (i : Nat) (v : Value), jm_sub a b → a[i]? = some (some v) → b[i]? = some (some v) := by
  intro a
  induction a with
  | nil => intro b i v _ h; simp at h
  | cons x a ih =>
    intro b i v hs h
    cases b with
    | nil =>
      cases x with
      | none =>
        cases i with
        | zero => simp at h
        | succ i => have h2 := ih [] i v hs (by simpa using h); simp at h2
      | some y => exact hs.elim
    | cons y b =>
      cases x with
      | none =>
        cases i with
        | zero => simp at h
        | succ i => simpa using ih b i v hs (by simpa using h)
      | some u =>
        obtain ⟨rfl, h2⟩ := hs
        cases i with
        | zero => simpa using h
        | succ i => simpa using ih b i v h2 (by simpa using h)
theorem jm_weak {lv' : jm_LV} (F : jm_F E X own cc nL ret d n z w) (hs : jm_sub lv' lv) (k : jm_G w pc lv' st M o K) : jm_G w pc lv st M o K := by
  intro r h1 h2
  have k := k r h1 h2
  obtain ⟨p, e, s, m, args, below, meth, c, rfl, hx, hb, hml, hown, hts, hr, hlk, hK, hdj, hZ⟩ := F
  intro ls H locs hl hP hS
  exact k ls H locs ⟨hl.1, hl.2.1, fun i v h => hl.2.2 i v (jm_sub_at _ _ i v hs h)⟩ hP hS
theorem jm_weakD {r : τ} {lv' : jm_LV} (F : jm_F E X own cc nL ret d n z w) (hs : jm_sub lv' lv) (h : K r → w pc lv' st M) : jm_G w pc lv st M (some r) K := jm_weak F hs (jm_done h)
theorem jm_iret {v : Int32} {r : τ} (F : jm_F E X own cc nL (some .int) d n z w) (hd : jm_d cc pc .ireturn 1 pc') (hz : K r → z (some (.int v)) M) : jm_G w pc lv [.int v] M (some r) K := by
  intro r' h1 h2
  cases h1
  have hz := hz h2
  obtain ⟨p, e, s, m, args, below, meth, c, rfl, hx, hb, hml, hown, hts, hr, hlk, hK, hdj, hZ⟩ := F
  obtain ⟨hd, -⟩ := hd
  intro ls H locs hl hP hS
  exact W.iret hx hb hr (fun t ht _ => ⟨⟨_, M, rfl, hz, by rw [ht]; exact hP⟩, hS.F ht⟩) hS.2.2 hd hlk
theorem jm_lret {v : Int64} {r : τ} (F : jm_F E X own cc nL (some .long) d n z w) (hd : jm_d cc pc .lreturn 1 pc') (hz : K r → z (some (.long v)) M) : jm_G w pc lv [.long v] M (some r) K := by
  intro r' h1 h2
  cases h1
  have hz := hz h2
  obtain ⟨p, e, s, m, args, below, meth, c, rfl, hx, hb, hml, hown, hts, hr, hlk, hK, hdj, hZ⟩ := F
  obtain ⟨hd, -⟩ := hd
  intro ls H locs hl hP hS
  exact W.lret hx hb hr (fun t ht _ => ⟨⟨_, M, rfl, hz, by rw [ht]; exact hP⟩, hS.F ht⟩) hS.2.2 hd hlk
theorem jm_vret  {r : τ} (F : jm_F E X own cc nL none d n z w) (hd : jm_d cc pc .return_ 1 pc') (hz : K r → z none M) : jm_G w pc lv [] M (some r) K := by
  intro r' h1 h2
  cases h1
  have hz := hz h2
  obtain ⟨p, e, s, m, args, below, meth, c, rfl, hx, hb, hml, hown, hts, hr, hlk, hK, hdj, hZ⟩ := F
  obtain ⟨hd, -⟩ := hd
  intro ls H locs hl hP hS
  exact W.vret hx hb hr (fun t ht _ => ⟨⟨_, M, rfl, hz, by rw [ht]; exact hP⟩, hS.F ht⟩) hS.2.2 hd hlk
theorem jm_zret {v : Int32} {r : τ} (F : jm_F E X own cc nL (some .boolean) d n z w) (hd : jm_d cc pc .ireturn 1 pc') (hv : v = 0 ∨ v = 1) (hz : K r → z (some (.int v)) M) : jm_G w pc lv [.int v] M (some r) K := by
  intro r' h1 h2
  cases h1
  have hz := hz h2
  obtain ⟨p, e, s, m, args, below, meth, c, rfl, hx, hb, hml, hown, hts, hr, hlk, hK, hdj, hZ⟩ := F
  obtain ⟨hd, -⟩ := hd
  intro ls H locs hl hP hS
  exact W.zret hx hb hr (by rcases hv with rfl | rfl <;> rfl) (fun t ht _ => ⟨⟨_, M, rfl, hz, by rw [ht]; exact hP⟩, hS.F ht⟩) hS.2.2 hd hlk
theorem jm_aret {C : String} {a : Nat} {r : τ} (F : jm_F E X own cc nL (some (.object C)) d n z w) (hd : jm_d cc pc .areturn 1 pc') (hz : K r → z (some (.ref a)) M) : jm_G w pc lv [.ref a] M (some r) K := by
  intro r' h1 h2
  cases h1
  have hz := hz h2
  obtain ⟨p, e, s, m, args, below, meth, c, rfl, hx, hb, hml, hown, hts, hr, hlk, hK, hdj, hZ⟩ := F
  obtain ⟨hd, -⟩ := hd
  intro ls H locs hl hP hS
  exact W.aret hx hb hr (Or.inl ⟨_, rfl⟩) (Or.inr ⟨_, rfl⟩) (fun t ht _ => ⟨⟨_, M, rfl, hz, by rw [ht]; exact hP⟩, hS.F ht⟩) hS.2.2 hd hlk
theorem jm_bzB {v : Int32} {g : Int32 → Option τ} (k : v = 0 ∨ v = 1 → jm_G w pc lv st M (g v) K) : jm_G w pc lv st M ((jm_bz v).bind g) K := by
  intro r h1 h2
  unfold jm_bz at h1
  split at h1
  next hv => exact k hv r h1 h2
  · cases h1
theorem jm_getI {index ci k t : Nat} {fs : List (Option (Nat × Nat))} (F : jm_F E X own cc nL ret d n z w) (hd : jm_d cc pc (.getfield index) 3 pc') (hf : jm_Fl own index ci k) (hX : jm_obj X t ci fs) (hk : fs[k]? = some none) (kk : jm_G w pc' lv (.int (M t 0 k) :: st) M o K) : jm_G w pc lv (.ref (jm_a E t 0) :: st) M o K := by
  intro r h1 h2
  have kk := kk r h1 h2
  obtain ⟨p, e, s, m, args, below, meth, c, rfl, hx, hb, hml, hown, hts, hr, hlk, hK, hdj, hZ⟩ := F
  obtain ⟨hd, rfl⟩ := hd
  obtain ⟨C, T, N, hc, hkN, hin, hlink⟩ := hf
  obtain ⟨q, hq⟩ := hX
  intro ls H locs hl hP hS
  have hv := jm_fv_int (E := E) (f := M t 0) fs 0 k hk
  rw [Nat.zero_add] at hv
  exact va_get hx hb hts hin hown hK hP q (jm_ws_at hq) hc k hkN (hts _ hlink) (fun _ h => h) hv hd (kk ls H locs hl hP hS)
theorem jm_getR {index ci k t : Nat} {fs : List (Option (Nat × Nat))} {u : Nat × Nat} (F : jm_F E X own cc nL ret d n z w) (hd : jm_d cc pc (.getfield index) 3 pc') (hf : jm_Fl own index ci k) (hX : jm_obj X t ci fs) (hk : fs[k]? = some (some u)) (kk : jm_G w pc' lv (.ref (jm_a E u.1 u.2) :: st) M o K) : jm_G w pc lv (.ref (jm_a E t 0) :: st) M o K := by
  intro r h1 h2
  have kk := kk r h1 h2
  obtain ⟨p, e, s, m, args, below, meth, c, rfl, hx, hb, hml, hown, hts, hr, hlk, hK, hdj, hZ⟩ := F
  obtain ⟨hd, rfl⟩ := hd
  obtain ⟨C, T, N, hc, hkN, hin, hlink⟩ := hf
  obtain ⟨q, hq⟩ := hX
  intro ls H locs hl hP hS
  exact va_get hx hb hts hin hown hK hP q (jm_ws_at hq) hc k hkN (hts _ hlink) (fun _ h => h) (jm_fv_ref (E := E) (f := M t 0) fs 0 k hk) hd (kk ls H locs hl hP hS)
theorem jm_putI {index ci k t : Nat} {v : Int32} {fs : List (Option (Nat × Nat))} {g : jm_M → Option τ} (F : jm_F E X own cc nL ret d n z w) (hd : jm_d cc pc (.putfield index) 3 pc') (hf : jm_Fp own index ci k .int) (hX : jm_obj X t ci fs) (hk : fs[k]? = some none) (kk : ∀ M', jm_G w pc' lv st M' (g M') K) : jm_G w pc lv (.int v :: .ref (jm_a E t 0) :: st) M ((jm_wf M t k v).bind g) K := by
  intro r h1 h2
  have hnv : narrow .int (Value.int v) = .int v := rfl
  have hfv : fits .int (Value.int v) = true := rfl
  have kk := kk _ r h1 h2
  obtain ⟨p, e, s, m, args, below, meth, c, rfl, hx, hb, hml, hown, hts, hr, hlk, hK, hdj, hZ⟩ := F
  obtain ⟨hd, rfl⟩ := hd
  obtain ⟨C, T, N, ty0, hc, hkN, hin, hlink, hty, hnm, hfin, hdf⟩ := hf
  obtain ⟨q, hq⟩ := hX
  intro ls H locs hl hP hS
  refine va_put hx hb hts hin ty0 hty hnm hown hK hP (jm_D_of hdj M) hS q (jm_ws_at hq) hc k hkN (hts _ hlink) (fun _ h => h) hfin hdf hnv hfv (by rw [jm_fv_len]; exact (List.getElem?_eq_some_iff.mp hk).1) hd (fun H1 locs1 hP1 hD1 hS1 => ?_)
  refine kk ls H1 locs1 hl ?_ hS1
  rw [jm_ws_set hdj hq (M' := jm_up M t 0 k v) ?_ ?_] at hP1
  · exact hP1
  · have e := jm_fv_set (E := E) (f := M t 0) (v := v) fs 0 k hk
    rw [Nat.zero_add] at e
    show (jm_a E t 0, _) = _
    rw [jm_cell]
    simp only [e]
    have e2 : (fun j => if j = k then v else M t 0 j) = jm_up M t 0 k v t 0 := by funext j; simp [jm_up]
    rw [e2]
  · intro a b hab
    funext j
    simp only [jm_up]
    rw [if_neg (fun h => hab ⟨h.1, h.2.1⟩)]
theorem jm_putZ {index ci k t : Nat} {v : Int32} {fs : List (Option (Nat × Nat))} {g : jm_M → Option τ} (F : jm_F E X own cc nL ret d n z w) (hd : jm_d cc pc (.putfield index) 3 pc') (hf : jm_Fp own index ci k .boolean) (hX : jm_obj X t ci fs) (hk : fs[k]? = some none) (kk : ∀ M', jm_G w pc' lv st M' (g M') K) : jm_G w pc lv (.int v :: .ref (jm_a E t 0) :: st) M ((jm_wz M t k v).bind g) K := by
  intro r h1 h2
  unfold jm_wz at h1
  split at h1
  case isFalse => cases h1
  case isTrue hv =>
  have hnv : narrow .boolean (Value.int v) = .int v := by rcases hv with rfl | rfl <;> rfl
  have hfv : fits .boolean (Value.int v) = true := by rcases hv with rfl | rfl <;> rfl
  have kk := kk _ r h1 h2
  obtain ⟨p, e, s, m, args, below, meth, c, rfl, hx, hb, hml, hown, hts, hr, hlk, hK, hdj, hZ⟩ := F
  obtain ⟨hd, rfl⟩ := hd
  obtain ⟨C, T, N, ty0, hc, hkN, hin, hlink, hty, hnm, hfin, hdf⟩ := hf
  obtain ⟨q, hq⟩ := hX
  intro ls H locs hl hP hS
  refine va_put hx hb hts hin ty0 hty hnm hown hK hP (jm_D_of hdj M) hS q (jm_ws_at hq) hc k hkN (hts _ hlink) (fun _ h => h) hfin hdf hnv hfv (by rw [jm_fv_len]; exact (List.getElem?_eq_some_iff.mp hk).1) hd (fun H1 locs1 hP1 hD1 hS1 => ?_)
  refine kk ls H1 locs1 hl ?_ hS1
  rw [jm_ws_set hdj hq (M' := jm_up M t 0 k v) ?_ ?_] at hP1
  · exact hP1
  · have e := jm_fv_set (E := E) (f := M t 0) (v := v) fs 0 k hk
    rw [Nat.zero_add] at e
    show (jm_a E t 0, _) = _
    rw [jm_cell]
    simp only [e]
    have e2 : (fun j => if j = k then v else M t 0 j) = jm_up M t 0 k v t 0 := by funext j; simp [jm_up]
    rw [e2]
  · intro a b hab
    funext j
    simp only [jm_up]
    rw [if_neg (fun h => hab ⟨h.1, h.2.1⟩)]
theorem jm_iald {t j N : Nat} {i : Int32} {g : Int32 → Option τ} (F : jm_F E X own cc nL ret d n z w) (hd : jm_d cc pc .iaload 1 pc') (hX : jm_arr X t j N) (kk : ∀ v, jm_G w pc' lv (.int v :: st) M (g v) K) : jm_G w pc lv (.int i :: .ref (jm_a E t j) :: st) M ((jm_rd N (M t j) i).bind g) K := by
  intro r h1 h2
  unfold jm_rd at h1
  split at h1
  · cases h1
  next hi =>
  have kk := kk _ r h1 h2
  obtain ⟨p, e, s, m, args, below, meth, c, rfl, hx, hb, hml, hown, hts, hr, hlk, hK, hdj, hZ⟩ := F
  obtain ⟨hd, rfl⟩ := hd
  obtain ⟨q, hq⟩ := hX
  intro ls H locs hl hP hS
  exact va_iald hx hb hK hP q 0 (jm_ws_at hq) rfl hi hd (kk ls H locs hl hP hS)
theorem jm_iast {t j N : Nat} {i v : Int32} {g : jm_M → Option τ} (F : jm_F E X own cc nL ret d n z w) (hd : jm_d cc pc .iastore 1 pc') (hX : jm_arr X t j N) (kk : ∀ M', jm_G w pc' lv st M' (g M') K) : jm_G w pc lv (.int v :: .int i :: .ref (jm_a E t j) :: st) M ((jm_wa N M t j i v).bind g) K := by
  intro r h1 h2
  unfold jm_wa at h1
  split at h1
  · cases h1
  next hi =>
  have kk := kk _ r h1 h2
  obtain ⟨p, e, s, m, args, below, meth, c, rfl, hx, hb, hml, hown, hts, hr, hlk, hK, hdj, hZ⟩ := F
  obtain ⟨hd, rfl⟩ := hd
  obtain ⟨q, hq⟩ := hX
  intro ls H locs hl hP hS
  refine va_iast hx hb hK hP (jm_D_of hdj M) hS q 0 (jm_ws_at hq) rfl hi hd (fun H1 locs1 hP1 hD1 hS1 => ?_)
  refine kk ls H1 locs1 hl ?_ hS1
  rw [jm_ws_set hdj hq (M' := jm_up M t j i.toNatClampNeg v) ?_ ?_] at hP1
  · exact hP1
  · rw [jm_cell]
    have e2 : upd (M t j) i.toNatClampNeg v = jm_up M t j i.toNatClampNeg v t j := by funext k; simp [jm_up, upd]
    simp only [e2]
  · intro a b hab
    funext k
    simp only [jm_up]
    rw [if_neg (fun h => hab ⟨h.1, h.2.1⟩)]
theorem jm_alen {t j N : Nat} (F : jm_F E X own cc nL ret d n z w) (hd : jm_d cc pc .arraylength 1 pc') (hX : jm_arr X t j N) (kk : jm_G w pc' lv (.int (nI N) :: st) M o K) : jm_G w pc lv (.ref (jm_a E t j) :: st) M o K := by
  intro r h1 h2
  have kk := kk r h1 h2
  obtain ⟨p, e, s, m, args, below, meth, c, rfl, hx, hb, hml, hown, hts, hr, hlk, hK, hdj, hZ⟩ := F
  obtain ⟨hd, rfl⟩ := hd
  obtain ⟨q, hq⟩ := hX
  intro ls H locs hl hP hS
  exact va_alen hx hb hK hP q 0 (jm_ws_at hq) rfl rfl hd (kk ls H locs hl hP hS)
theorem jm_len_arr {X : jm_Lay} {r : Nat × Nat} {N : Nat} (h : jm_len X r = some N) : jm_arr X r.1 r.2 N := by
  unfold jm_len at h
  split at h
  next u n hf =>
    cases h
    obtain ⟨q, hq⟩ := List.getElem?_of_mem (List.mem_of_find?_eq_some hf)
    have h2 := List.find?_some hf
    simp only [Bool.and_eq_true, beq_iff_eq] at h2
    obtain ⟨u1, u2⟩ := u
    obtain ⟨rfl, rfl⟩ := h2
    exact ⟨q, hq⟩
  · cases h
theorem jm_lenB {r : Nat × Nat} {g : Nat → Option τ} (k : ∀ N, jm_arr X r.1 r.2 N → jm_G w pc lv st M (g N) K) : jm_G w pc lv st M ((jm_len X r).bind g) K := by
  intro e h1 h2
  cases h : jm_len X r with
  | none => rw [h] at h1; cases h1
  | some N => rw [h] at h1; exact k N (jm_len_arr h) e h1 h2
def jm_ix (n : Nat) (i : Int32) : Option Nat := if i < 0 ∨ n ≤ i.toNatClampNeg then none else some i.toNatClampNeg
theorem jm_aald {t j b : Nat} {rs : List (Nat × Nat)} {N : Nat} {i : Int32} {g : Nat → Option τ} (F : jm_F E X own cc nL ret d n z w) (hd : jm_d cc pc .aaload 1 pc') (hX : jm_rar X t j rs) (hN : rs.length = N) (hrs : ∀ k, k < N → rs[k]? = some (b + k, 0)) (kk : ∀ k, k < N → jm_G w pc' lv (.ref (jm_a E (b + k) 0) :: st) M (g k) K) : jm_G w pc lv (.int i :: .ref (jm_a E t j) :: st) M ((jm_ix N i).bind g) K := by
  intro r h1 h2
  unfold jm_ix at h1
  split at h1
  · cases h1
  next hi =>
  have hlt : i.toNatClampNeg < N := Nat.lt_of_not_le (fun h => hi (Or.inr h))
  have kk2 := kk _ hlt r h1 h2
  obtain ⟨p, e, s, m, args, below, meth, c, rfl, hx, hb, hml, hown, hts, hr, hlk, hK, hdj, hZ⟩ := F
  obtain ⟨hd, rfl⟩ := hd
  obtain ⟨q, hq⟩ := hX
  subst hN
  intro ls H locs hl hP hS
  refine va_aldq hx hb hK hP q 1 (jm_ws_at hq) rfl hi hd ?_
  rw [hrs _ hlt]
  exact kk2 ls H locs hl hP hS
theorem jm_gets {index : Nat} (F : jm_F E X own cc nL ret d n z w) (hd : jm_d cc pc (.getstatic index) 3 pc') (hl0 : Cond.fieldLink own index "WeighedInBooks$Statements" "STEP_LETTERS" "[C" ∈ jm_tb) (kk : jm_G w pc' lv (.ref (jm_tS E) :: st) M o K) : jm_G w pc lv st M o K := by
  intro r h1 h2
  have kk := kk r h1 h2
  obtain ⟨p, e, s, m, args, below, meth, c, rfl, hx, hb, hml, hown, hts, hr, hlk, hK, hdj, hZ⟩ := F
  obtain ⟨hd, rfl⟩ := hd
  intro ls H locs hl hP hS
  exact va_gets hx hb hZ.1 hS hown (hts _ hl0) (fun _ h => h) hd (kk ls H locs hl hP hS)
theorem jm_cald {i : Int32} {g : Int32 → Option τ} (F : jm_F E X own cc nL ret d n z w) (hd : jm_d cc pc .caload 1 pc') (kk : ∀ v, jm_G w pc' lv (.int v :: st) M (g v) K) : jm_G w pc lv (.int i :: .ref (jm_tS E) :: st) M ((jm_rd 8 jm_SL i).bind g) K := by
  intro r h1 h2
  unfold jm_rd at h1
  split at h1
  · cases h1
  next hi =>
  have kk := kk _ r h1 h2
  obtain ⟨p, e, s, m, args, below, meth, c, rfl, hx, hb, hml, hown, hts, hr, hlk, hK, hdj, hZ⟩ := F
  obtain ⟨hd, rfl⟩ := hd
  intro ls H locs hl hP hS
  exact va_tc hx hb hZ.2 hS hi rfl hd (kk ls H locs hl hP hS)
def jm_wc (M : jm_M) (t j t' j' n : Nat) : Option jm_M := some (jm_cp M t j t' j' n)
theorem jm_acopy {index t j t' j' N : Nat} {i : Int32} {g : jm_M → Option τ} (F : jm_F E X own cc nL ret d n z w) (hd : jm_d cc pc (.invokestatic index) 3 pc') (hw1 : Cond.methodLink own index arraycopyName ∈ jm_tb) (hw2 : Cond.native arraycopyName ∈ jm_tb) (hw3 : Cond.static arraycopyName ∈ jm_tb) (hw4 : Cond.initialized "java/lang/System" ∈ jm_tb) (hX : jm_arr X t j N) (hX' : jm_arr X t' j' N) (hi : ¬ i < 0) (hN : i.toNatClampNeg = N) (hR : 1 ≤ d ∧ (st.map fun v => v.category).sum + (nativeFrameWords "java/lang/System" "arraycopy" 5 + 11) ≤ n) (kk : ∀ M', jm_G w pc' lv st M' (g M') K) : jm_G w pc lv (.int i :: .int 0 :: .ref (jm_a E t' j') :: .int 0 :: .ref (jm_a E t j) :: st) M ((jm_wc M t j t' j' N).bind g) K := by
  intro r h1 h2
  have kk := kk (jm_cp M t j t' j' N) r h1 h2
  obtain ⟨p, e, s, m, args, below, meth, c, rfl, hx, hb, hml, hown, hts, hr, hlk, hK, hdj, hZ⟩ := F
  obtain ⟨hd, rfl⟩ := hd
  obtain ⟨q, hq⟩ := hX
  obtain ⟨q', hq'⟩ := hX'
  intro ls H locs hl hP hS
  have z0 : (0 : Int32).toNatClampNeg = 0 := by decide
  refine va_copyi hx hb (hml.trans hl.1.symm) hown (hts _ hw1) (hts _ hw2) (hts _ hw3) (hts _ hw4) hK hP (jm_D_of hdj M) hS q q' 0 0 (jm_ws_at hq) (jm_ws_at hq') rfl rfl rfl (by decide) (by decide) hi (by rw [z0, hN]; omega) (by rw [z0, hN]; omega) (fun _ _ => rfl) hR.1 hR.2 hd (fun H1 locs1 hP1 hD1 hS1 => ?_)
  refine kk ls H1 locs1 hl ?_ hS1
  rw [jm_ws_set hdj hq' (M' := jm_cp M t j t' j' N) ?_ ?_] at hP1
  · exact hP1
  · rw [jm_cell]
    have e2 : va_cpy (M t j) (M t' j') (0 : Int32).toNatClampNeg (0 : Int32).toNatClampNeg i.toNatClampNeg = jm_cp M t j t' j' N t' j' := by
      funext k
      rw [z0, hN]
      simp [jm_cp, va_cpy]
    simp only [e2]
  · intro a b hab
    funext k
    simp only [jm_cp]
    rw [if_neg (fun h => hab ⟨h.1, h.2.1⟩)]
def jm_max (x y : Int32) : Int32 := if x < y then y else x
def jm_min (x y : Int32) : Int32 := if y < x then y else x
def jm_abs (x : Int32) : Int32 := if 0 ≤ x then x else 0 - x
theorem jm_mmax {index : Nat} {x y : Int32} (F : jm_F E X own cc nL ret d n z w) (hd : jm_d cc pc (.invokestatic index) 3 pc') (hw1 : Cond.methodLink own index Lib.Math.max.name ∈ jm_tb) (hw2 : Cond.static Lib.Math.max.name ∈ jm_tb) (hw3 : Cond.initialized "java/lang/Math" ∈ jm_tb) (hw4 : Cond.code Lib.Math.max.name Lib.Math.max.code 2 (some .int) ∈ jm_tb) (hR : 1 ≤ d ∧ (st.map fun v => v.category).sum + 13 ≤ n) (k : jm_G w pc' lv (.int (jm_max x y) :: st) M o K) : jm_G w pc lv (.int y :: .int x :: st) M o K := by
  intro r h1 h2
  have k := k r h1 h2
  obtain ⟨p, e, s, m, args, below, meth, c, rfl, hx, hb, hml, hown, hts, hr, hlk, hK, hdj, hZ⟩ := F
  obtain ⟨hd, rfl⟩ := hd
  intro ls H locs hl hP hS
  exact va_mmax hx hb (hml.trans hl.1.symm) hown (hts _ hw1) (hts _ hw2) (hts _ hw3) (hts _ hw4) hR.1 hR.2 (Nat.zero_le _) (Nat.zero_le _) hd (k ls H locs hl hP hS)
theorem jm_mmin {index : Nat} {x y : Int32} (F : jm_F E X own cc nL ret d n z w) (hd : jm_d cc pc (.invokestatic index) 3 pc') (hw1 : Cond.methodLink own index Lib.Math.min.name ∈ jm_tb) (hw2 : Cond.static Lib.Math.min.name ∈ jm_tb) (hw3 : Cond.initialized "java/lang/Math" ∈ jm_tb) (hw4 : Cond.code Lib.Math.min.name Lib.Math.min.code 2 (some .int) ∈ jm_tb) (hR : 1 ≤ d ∧ (st.map fun v => v.category).sum + 13 ≤ n) (k : jm_G w pc' lv (.int (jm_min x y) :: st) M o K) : jm_G w pc lv (.int y :: .int x :: st) M o K := by
  intro r h1 h2
  have k := k r h1 h2
  obtain ⟨p, e, s, m, args, below, meth, c, rfl, hx, hb, hml, hown, hts, hr, hlk, hK, hdj, hZ⟩ := F
  obtain ⟨hd, rfl⟩ := hd
  intro ls H locs hl hP hS
  exact va_mmin hx hb (hml.trans hl.1.symm) hown (hts _ hw1) (hts _ hw2) (hts _ hw3) (hts _ hw4) hR.1 hR.2 (Nat.zero_le _) (Nat.zero_le _) hd (k ls H locs hl hP hS)
theorem jm_mabs {index : Nat} {x : Int32} (F : jm_F E X own cc nL ret d n z w) (hd : jm_d cc pc (.invokestatic index) 3 pc') (hw1 : Cond.methodLink own index Lib.Math.abs.name ∈ jm_tb) (hw2 : Cond.static Lib.Math.abs.name ∈ jm_tb) (hw3 : Cond.initialized "java/lang/Math" ∈ jm_tb) (hw4 : Cond.code Lib.Math.abs.name Lib.Math.abs.code 1 (some .int) ∈ jm_tb) (hR : 1 ≤ d ∧ (st.map fun v => v.category).sum + 13 ≤ n) (k : jm_G w pc' lv (.int (jm_abs x) :: st) M o K) : jm_G w pc lv (.int x :: st) M o K := by
  intro r h1 h2
  have k := k r h1 h2
  obtain ⟨p, e, s, m, args, below, meth, c, rfl, hx, hb, hml, hown, hts, hr, hlk, hK, hdj, hZ⟩ := F
  obtain ⟨hd, rfl⟩ := hd
  intro ls H locs hl hP hS
  exact va_mabs hx hb (hml.trans hl.1.symm) hown (hts _ hw1) (hts _ hw2) (hts _ hw3) (hts _ hw4) hR.1 hR.2 (Nat.zero_le _) (Nat.zero_le _) hd (k ls H locs hl hP hS)
end
/-! contracts -/
def jm_Pz (E : jm_Ev) (X : jm_Lay) (M : jm_M) (U : State) : Prop := va_P (jm_D E) jm_cl (jm_ws E X M) U.heap ∧ va_K (jm_D E) jm_cl (jm_tys E) U ∧ jm_Z E X U U.heap
def jm_Ct (E : jm_Ev) (X : jm_Lay) (y : MethodName) (cc : ByteArray) (maxL : Nat) (ret : Option FieldType) (d n : Nat) (av : List Value) (M : jm_M) (v : Option Value) (M' : jm_M) : Prop :=
  Met (jm_l E) y (Cond.code y cc maxL ret :: jm_tb) ({ frames := d, cells := 0, slots := 0, locals := n } : Room) (va_Pc av (jm_Pz E X M)) (jm_Qz E X (fun v' M'' => v' = v ∧ M'' = M')) 0 0 (jm_A E X)
theorem jm_enter {E : jm_Ev} {X : jm_Lay} {y : MethodName} {cc : ByteArray} {maxL : Nat} {ret : Option FieldType} {d n : Nat} {av : List Value} {M : jm_M} {v : Option Value} {M' : jm_M} {lv : jm_LV} (hE : jm_dj E X) (hy : plainName y.cls = true) (hn : (lg_sl av).length ≤ maxL) (hl0 : jm_pairs lv = lv_args 0 av) (body : ∀ z w, jm_F E X y.cls cc maxL ret d n z w → z v M' → w 0 lv [] M) : jm_Ct E X y cc maxL ret d n av M v M' := by
  refine Met.ofW (cc := cc) (maxL := maxL) (ret := ret) hy rfl ?_
  intro p e s m args below meth c s₁ B hml hv
  obtain ⟨rfl, hP, hK, hZ⟩ := hv
  have hts := atoms_spec (ws := Cond.code y cc maxL ret :: jm_tb) B.pre
  have hown : s.vm.findClass y.cls = some m.cls := findClass_of_methodNamed B.named
  have F : jm_F E X y.cls cc maxL ret d n (fun v' M'' => v' = v ∧ M'' = M') _ := ⟨p, e, s, m, av.toArray, below, meth, c, rfl, B.exec, B.bytes, hml, hown, fun w hw => hts w (List.mem_cons_of_mem _ hw), B.returns, B.notSynchronized, hK, hE, hZ⟩
  have hb := body _ _ F ⟨rfl, rfl⟩
  have hl := lv_entry av (n := maxL) hn
  rw [lg_entry_eq]
  generalize (lg_sl av ++ List.replicate (maxL - (lg_sl av).length) Slot.unset).toArray = ls at hl ⊢
  exact hb ls s.heap [] ⟨hl.1, hl.2.1, fun i v h => hl.2.2 (i, v) (by rw [← hl0]; exact jm_pairs_mem h)⟩ hP va_S.rf
def jm_CV (own : String) (index : Nat) (y : MethodName) (cc : ByteArray) (maxL : Nat) (ret : Option FieldType) (na : Nat) : Prop :=
  Cond.methodLink own index y ∈ jm_tb ∧ Cond.instanceMethod y ∈ jm_tb ∧ Cond.selects y.cls y y ∈ jm_tb ∧ Cond.initialized y.cls ∈ jm_tb ∧ Cond.code y cc maxL ret ∈ jm_tb ∧ y.cls ≠ "java/lang/invoke/MethodHandle" ∧ y.cls ≠ "java/lang/invoke/VarHandle" ∧ (parseMethodDescriptor y.desc).map (fun d => d.parameters.length) = some na
def jm_CS (own : String) (index : Nat) (y : MethodName) (cc : ByteArray) (maxL : Nat) (ret : Option FieldType) (na : Nat) : Prop :=
  Cond.methodLink own index y ∈ jm_tb ∧ Cond.static y ∈ jm_tb ∧ Cond.initialized y.cls ∈ jm_tb ∧ Cond.code y cc maxL ret ∈ jm_tb ∧ y.cls ≠ "java/lang/invoke/MethodHandle" ∧ y.cls ≠ "java/lang/invoke/VarHandle" ∧ (parseMethodDescriptor y.desc).map (fun d => d.parameters.length) = some na
theorem jm_tb_good {w : Cond} (h : w ∈ jm_tb) : (w.onTables && w.keeps) = true ∨ ∃ ty, w = .arrayClass ty := good_of_word (List.mem_filter.mp h).2
theorem jm_good {ws : List Cond} (h : ∀ w ∈ ws, w ∈ jm_tb) : GoodIn jm_tb ws := fun w hw => ⟨h w hw, jm_tb_good (h w hw)⟩
theorem jm_Pz_blind {E : jm_Ev} {X : jm_Lay} {M : jm_M} {av : List Value} : FrameBlind (va_Pc av (jm_Pz E X M)) := by
  intro a U g mk h
  obtain ⟨e, h1, h2, h3, h4⟩ := h
  exact ⟨e, h1, va_K.moved (u := U) (U := U.calling g mk a) (Vm.Alike.refl U.vm) h2, h3.moved (u := U) (U := U.calling g mk a) (Vm.Alike.refl U.vm), h4.moved (u := U) (U := U.calling g mk a) (Vm.Alike.refl U.vm)⟩
theorem jm_Pz_at {E : jm_Ev} {X : jm_Lay} {M : jm_M} {s U : State} {H : Heap} {locs : List Loc} (hU : U.heap = H) (hW : s.WarmedH U.vm) (hP : va_P (jm_D E) jm_cl (jm_ws E X M) H) (hK : va_K (jm_D E) jm_cl (jm_tys E) s) (hZ : jm_Z E X s s.heap) (hS : va_S (jm_A E X) s.heap H locs) : jm_Pz E X M U := by
  subst hU
  exact ⟨hP, va_K.moved hW.alike hK, (hZ.1.kept (fun a h1 h2 => hS.2.1 a h1 h2)).moved hW.alike, (hZ.2.kept (fun a h1 h2 => hS.2.1 a h1 h2)).moved hW.alike⟩
theorem jm_call {E : jm_Ev} {X : jm_Lay} {p : Program} {e : Env} {R : Room} {s : State} {m : MethodId} {args a : Array Value} {below : List Frame} {meth : Method} {c : Code} {H : Heap} {locs : List Loc} {Q : State → Prop} {pc : Nat} {ls : Array Slot} {rest st0 : List Value} {v : Option Value} {M' : jm_M}
    (hr : va_Run p (jm_l E) e R s m args below meth c H locs 0 0 0 0 (F0 m pc ls st0) rest (jm_Qz E X (fun v' M'' => v' = v ∧ M'' = M') a) (jm_A E X)) (hS : va_S (jm_A E X) s.heap H locs)
    (kk : ∀ (H1 : Heap) (locs1 : List Loc), va_P (jm_D E) jm_cl (jm_ws E X M') H1 → va_S (jm_A E X) s.heap H1 locs1 → W p (jm_l E) e R s m args below meth c H1 locs1 0 0 Q (F0 m (pc + 3) ls (v.toList ++ rest))) : W p (jm_l E) e R s m args below meth c H locs 0 0 Q (F0 m pc ls st0) := by
  intro T hT X0
  obtain ⟨v0, st₀, t, T', L, h0, X', hL, e1, e2, ⟨⟨v1, M1, hv, ⟨rfl, rfl⟩, hP1⟩, hz, hk⟩, stp⟩ := hr T hT X0
  cases hv
  rw [h0] at hz hk
  obtain ⟨t2, a1, b1⟩ := kk T'.heap (locs ++ L) (by rw [e1]; exact hP1) ⟨Nat.le_trans hS.1 (by rw [e1]; exact hz), fun q h1 h2 => by rw [e1, hk q (Nat.lt_of_lt_of_le h1 hS.1) h2]; exact hS.2.1 q h1 h2, fun q hq => by
      rcases List.mem_append.mp hq with h | h
      · exact hS.2.2 q h
      · exact hL q h⟩ T' rfl X'
  exact ⟨t2, stp t2 a1, b1⟩
section
variable {E : jm_Ev} {X : jm_Lay} {own : String} {cc : ByteArray} {nL d n : Nat} {ret : Option FieldType} {z : Option Value → jm_M → Prop} {w : Nat → jm_LV → List Value → jm_M → Prop}
variable {τ σ : Type} {pc pc' : Nat} {lv : jm_LV} {st stk : List Value} {M : jm_M} {K : τ → Prop}
theorem jm_callV {y : MethodName} {bytes : ByteArray} {maxL d' n' na index : Nat} {ret' : Option FieldType} {As : List Value} {f : Option σ} {g : σ → Option τ} {rv : σ → Option Value} {mm : σ → jm_M} {t ci : Nat} {fs : List (Option (Nat × Nat))} (F : jm_F E X own cc nL ret d n z w) (hd : jm_d cc pc (.invokevirtual index) 3 pc') (hc : jm_CV own index y bytes maxL ret' na) (hna : As.length = na) (hX : jm_obj X t ci fs) (hci : (jm_cl[ci]?).map (fun q => q.1) = some y.cls) (hM : ∀ r, f = some r → jm_Ct E X y bytes maxL ret' d' n' (.ref (jm_a E t 0) :: As) M (rv r) (mm r)) (hst : stk = As.reverse ++ .ref (jm_a E t 0) :: st) (hw : (st.map fun v => v.category).sum ≤ 8) (hR : d' + 1 ≤ d ∧ 8 + (maxL + 11) + n' ≤ n) (kk : ∀ r, jm_G w pc' lv ((rv r).toList ++ st) (mm r) (g r) K) : jm_G w pc lv stk M (f.bind g) K := by
  intro r h1 h2
  cases hf : f with
  | none => rw [hf] at h1; cases h1
  | some r0 =>
  rw [hf] at h1
  have hM := hM r0 hf
  have kk := kk r0 r h1 h2
  obtain ⟨p, e, s, m, args, below, meth, c, rfl, hx, hb, hml, hown, hts, hr, hlk, hK, hdj, hZ⟩ := F
  obtain ⟨hd, rfl⟩ := hd
  obtain ⟨q, hq⟩ := hX
  obtain ⟨w1, w2, w3, w4, w5, w6, w7, w8⟩ := hc
  intro ls H locs hl hP hS
  subst hst
  have hG : GoodIn jm_tb (wsV own index y.cls y (Cond.code y bytes maxL ret' :: jm_tb)) := jm_good (fun w hw => by
    simp only [wsV, List.mem_append, List.mem_cons, List.not_mem_nil, or_false] at hw
    rcases hw with (rfl | rfl | rfl | rfl) | rfl | h
    · exact w1
    · exact w2
    · exact w3
    · exact w4
    · exact w5
    · exact h)
  have hrec : ∃ cell : Cell, H[jm_a E t 0]? = some cell ∧ cell.vm.isStatics = false ∧ s.vm.findClass y.cls = some cell.cls := by
    cases hcc : jm_cl[ci]? with
    | none => rw [hcc] at hci; cases hci
    | some q9 =>
      rw [hcc] at hci
      have e9 : q9.1 = y.cls := Option.some.inj hci
      rw [← e9]
      exact va_recv hK hP hcc (jm_ws_at hq)
  exact jm_call (va_runV (As := As) (rest := st) ⟨hx, hb, hml, hown, hts⟩ hM (cwV na hts hG rfl rfl rfl ⟨rfl, w6, w7, w8⟩ hR) ⟨jm_Pz_blind, hrec, fun U hU hW => ⟨rfl, jm_Pz_at hU hW hP hK hZ hS⟩⟩ rfl hna hl.1 rfl (lv_room hw) hd ⟨Nat.zero_le _, Nat.zero_le _⟩) hS (fun H1 locs1 hP1 hS1 => kk ls H1 locs1 hl hP1 hS1)
theorem jm_callS {y : MethodName} {bytes : ByteArray} {maxL d' n' na index : Nat} {ret' : Option FieldType} {As : List Value} {f : Option σ} {g : σ → Option τ} {rv : σ → Option Value} {mm : σ → jm_M} (F : jm_F E X own cc nL ret d n z w) (hd : jm_d cc pc (.invokestatic index) 3 pc') (hc : jm_CS own index y bytes maxL ret' na) (hna : As.length = na) (hM : ∀ r, f = some r → jm_Ct E X y bytes maxL ret' d' n' As M (rv r) (mm r)) (hst : stk = As.reverse ++ st) (hw : (st.map fun v => v.category).sum ≤ 8) (hR : d' + 1 ≤ d ∧ 8 + (maxL + 11) + n' ≤ n) (kk : ∀ r, jm_G w pc' lv ((rv r).toList ++ st) (mm r) (g r) K) : jm_G w pc lv stk M (f.bind g) K := by
  intro r h1 h2
  cases hf : f with
  | none => rw [hf] at h1; cases h1
  | some r0 =>
  rw [hf] at h1
  have hM := hM r0 hf
  have kk := kk r0 r h1 h2
  obtain ⟨p, e, s, m, args, below, meth, c, rfl, hx, hb, hml, hown, hts, hr, hlk, hK, hdj, hZ⟩ := F
  obtain ⟨hd, rfl⟩ := hd
  obtain ⟨w1, w2, w4, w5, w6, w7, w8⟩ := hc
  intro ls H locs hl hP hS
  subst hst
  have hG : GoodIn jm_tb (Cond.code y bytes maxL ret' :: jm_tb) := jm_good (fun w hw => by
    rcases List.mem_cons.mp hw with rfl | h
    · exact w5
    · exact h)
  exact jm_call (va_runS (As := As) (rest := st) ⟨hx, hb, hml, hown, hts⟩ hM ⟨callB_of na hts hG rfl rfl rfl (hts _ w4) (hts _ w1) ⟨w6, w7, w8⟩ hR, hts _ w2⟩ ⟨jm_Pz_blind, fun U hU hW => ⟨rfl, jm_Pz_at hU hW hP hK hZ hS⟩⟩ rfl hna hl.1 rfl (lv_room hw) hd ⟨Nat.zero_le _, Nat.zero_le _⟩) hS (fun H1 locs1 hP1 hS1 => kk ls H1 locs1 hl hP1 hS1)
end
