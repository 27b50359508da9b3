/-! the heaviest: put in order, and counted -/
theorem zc_none (P : Nat → Prop) [DecidablePred P] (n : Nat) (h : ∀ k, k < n → ¬ P k) : zc P n = 0 := by
  induction n with
  | zero => rfl
  | succ n ih =>
    show (if P n then zc P n + 1 else zc P n) = 0
    rw [if_neg (h n (by omega)), ih (fun k hk => h k (by omega))]
theorem zc_one (P : Nat → Prop) [DecidablePred P] {x : Nat} (hP : P x) : ∀ n, x < n → zc P n = zc (fun a => P a ∧ ¬ a = x) n + 1 := by
  intro n
  induction n with
  | zero => intro h; omega
  | succ n ih =>
    intro h
    show (if P n then zc P n + 1 else zc P n) = (if P n ∧ ¬ n = x then zc (fun a => P a ∧ ¬ a = x) n + 1 else zc (fun a => P a ∧ ¬ a = x) n) + 1
    by_cases e : n = x
    · subst e
      rw [if_pos hP, if_neg (fun q => q.2 rfl)]
      have : zc P n = zc (fun a => P a ∧ ¬ a = n) n := zc_congr n (fun k hk => ⟨fun q => ⟨q, by omega⟩, fun q => q.1⟩)
      omega
    · have i := ih (by omega)
      by_cases q : P n
      · rw [if_pos q, if_pos ⟨q, e⟩, i]
      · rw [if_neg q, if_neg (fun z => q z.1), i]
theorem zc_img (R : Nat → Nat) (n : Nat) : ∀ s (P : Nat → Prop) [DecidablePred P], (∀ i, i < s → R i < n) → (∀ i j, i < j → j < s → ¬ R i = R j) → (∀ a, a < n → (P a ↔ ∃ i, i < s ∧ R i = a)) → zc P n = s := by
  intro s
  induction s with
  | zero =>
    intro P _ _ _ h
    exact zc_none P n (fun k hk q => by
      obtain ⟨i, hi, -⟩ := (h k hk).1 q
      omega)
  | succ s ih =>
    intro P _ hR hinj h
    have hs := hR s (by omega)
    rw [zc_one P ((h (R s) hs).2 ⟨s, by omega, rfl⟩) n hs, ih (fun a => P a ∧ ¬ a = R s) (fun i hi => hR i (by omega)) (fun i j h1 h2 => hinj i j h1 (by omega)) (fun a ha => ?_)]
    constructor
    · intro q
      obtain ⟨i, hi, e⟩ := (h a ha).1 q.1
      refine ⟨i, ?_, e⟩
      have : ¬ i = s := fun z => q.2 (by rw [← e, z])
      omega
    · intro q
      obtain ⟨i, hi, e⟩ := q
      exact ⟨(h a ha).2 ⟨i, by omega, e⟩, fun z => hinj i s hi (by omega) (by rw [e, z])⟩
/-- m of the first k, in their order, in the places of R -/
def srt (K : Nat → Nat) (on : Nat → Prop) (k m : Nat) (R : Nat → Nat) : Prop := m ≤ k ∧ (∀ i, i < m → R i < k ∧ on (R i)) ∧ (∀ b, b < k → on b → ∃ i, i < m ∧ R i = b) ∧ ∀ i j, i < j → j < m → K (R i) < K (R j)
def insR (R : Nat → Nat) (s k : Nat) : Nat → Nat := fun i => if i < s then R i else if i = s then k else R (i - 1)
theorem srt_skip {K : Nat → Nat} {on : Nat → Prop} {k m : Nat} {R : Nat → Nat} (h : srt K on k m R) (hk : ¬ on k) : srt K on (k + 1) m R := by
  obtain ⟨h1, h2, h3, h4⟩ := h
  refine ⟨by omega, fun i hi => ⟨by have := (h2 i hi).1; omega, (h2 i hi).2⟩, fun b hb ho => ?_, h4⟩
  rcases Nat.lt_or_ge b k with q | q
  · exact h3 b q ho
  · rw [show b = k by omega] at ho
    exact absurd ho hk
theorem srt_ins {K : Nat → Nat} {on : Nat → Prop} {k m s : Nat} {R : Nat → Nat} (h : srt K on k m R) (hk : on k) (hs : s ≤ m) (h1 : ∀ i, s ≤ i → i < m → K k < K (R i)) (h2 : 0 < s → K (R (s - 1)) < K k) : srt K on (k + 1) (m + 1) (insR R s k) := by
  obtain ⟨a1, a2, a3, a4⟩ := h
  have e1 : ∀ i, i < s → insR R s k i = R i := fun i hi => by unfold insR; rw [if_pos hi]
  have e2 : insR R s k s = k := by unfold insR; rw [if_neg (by omega), if_pos rfl]
  have e3 : ∀ i, s < i → insR R s k i = R (i - 1) := fun i hi => by unfold insR; rw [if_neg (by omega), if_neg (by omega)]
  have lo : ∀ i, i < s → K (R i) < K k := by
    intro i hi
    have h2 := h2 (by omega)
    rcases Nat.lt_or_ge i (s - 1) with q | q
    · have := a4 i (s - 1) q (by omega); omega
    · rw [show i = s - 1 by omega]; exact h2
  refine ⟨by omega, fun i hi => ?_, fun b hb ho => ?_, fun i j hij hj => ?_⟩
  · rcases Nat.lt_trichotomy i s with q | q | q
    · rw [e1 i q]
      have := a2 i (by omega)
      exact ⟨by omega, this.2⟩
    · subst q; rw [e2]; exact ⟨by omega, hk⟩
    · rw [e3 i q]
      have := a2 (i - 1) (by omega)
      exact ⟨by omega, this.2⟩
  · rcases Nat.lt_or_ge b k with q | q
    · obtain ⟨i, hi, e⟩ := a3 b q ho
      rcases Nat.lt_or_ge i s with z | z
      · exact ⟨i, by omega, by rw [e1 i z]; exact e⟩
      · exact ⟨i + 1, by omega, by rw [e3 (i + 1) (by omega), Nat.add_sub_cancel]; exact e⟩
    · exact ⟨s, by omega, by rw [e2]; omega⟩
  · rcases Nat.lt_trichotomy i s with q | q | q
    · rw [e1 i q]
      rcases Nat.lt_trichotomy j s with z | z | z
      · rw [e1 j z]; exact a4 i j hij (by omega)
      · subst z; rw [e2]; exact lo i q
      · rw [e3 j z]
        exact a4 i (j - 1) (by omega) (by omega)
    · subst q
      rw [e2, e3 j hij]
      exact h1 (j - 1) (by omega) (by omega)
    · rw [e3 i q, e3 j (by omega)]
      exact a4 (i - 1) (j - 1) (by omega) (by omega)
theorem srt_cnt {K : Nat → Nat} {on : Nat → Prop} {k m : Nat} {R : Nat → Nat} (h : srt K on k m R) {i : Nat} (hi : i < m) [DecidablePred (fun a => on a ∧ K a < K (R i))] : zc (fun a => on a ∧ K a < K (R i)) k = i := by
  obtain ⟨a1, a2, a3, a4⟩ := h
  refine zc_img R k i _ (fun j hj => (a2 j (by omega)).1) (fun j l h1 h2 e => ?_) (fun a ha => ⟨fun q => ?_, fun q => ?_⟩)
  · have := a4 j l h1 (by omega)
    rw [e] at this
    omega
  · obtain ⟨j, hj, rfl⟩ := a3 a ha q.1
    refine ⟨j, ?_, rfl⟩
    rcases Nat.lt_trichotomy j i with z | z | z
    · exact z
    · subst z; omega
    · have := a4 i j z hj; omega
  · obtain ⟨j, hj, rfl⟩ := q
    exact ⟨(a2 j (by omega)).2, a4 j i hj hi⟩
theorem srt_ff {K : Nat → Nat} {on : Nat → Prop} {k m : Nat} {R : Nat → Nat} (h : srt K on k m R) (D : ∀ b, DecidablePred (fun a => on a ∧ K a < K b)) (i : Nat) : zb_ff (fun b => on b ∧ zc (fun a => on a ∧ K a < K b) k = i) k (if i < m then some (R i) else none) := by
  have key : ∀ b, b < k → on b → ∃ j, j < m ∧ R j = b ∧ zc (fun a => on a ∧ K a < K b) k = j := by
    intro b hb ho
    obtain ⟨j, hj, e⟩ := h.2.2.1 b hb ho
    refine ⟨j, hj, e, ?_⟩
    subst e
    exact srt_cnt h hj
  by_cases q : i < m
  · rw [if_pos q]
    refine ⟨(h.2.1 i q).1, ⟨(h.2.1 i q).2, srt_cnt h q⟩, fun j hj z => ?_⟩
    have := (h.2.1 i q).1
    obtain ⟨l, hl, e, c⟩ := key j (by omega) z.1
    rw [z.2] at c
    subst c
    omega
  · rw [if_neg q]
    intro b hb z
    obtain ⟨l, hl, e, c⟩ := key b hb z.1
    rw [z.2] at c
    omega
/-- the order of two books on the pan: heavier, or alike with the lesser title -/
noncomputable def hK (T : jm_T) (p q b : Nat) : Nat := (7000 - zb_N (ts_comes T p q b)) * 531441 + tt T b
section
variable {T : jm_T} {M : jm_M} {w : Nat}
theorem hK_lt (hw : wfT w T) (hw2 : w < 1000000) {p q a b : Nat} (ha : a < nb T) (hb : b < nb T) : (hK T p q a < hK T p q b) = (zb_N (ts_comes T p q b) < zb_N (ts_comes T p q a) ∨ (zb_N (ts_comes T p q a) = zb_N (ts_comes T p q b) ∧ tt T a < tt T b)) := by
  have a1 := (zb_in_N (ts_comes_in hw hw2 ha p q) (by omega)).2
  have b1 := (zb_in_N (ts_comes_in hw hw2 hb p q) (by omega)).2
  have a2 := (hw.tx ha).2
  have b2 := (hw.tx hb).2
  unfold hK
  exact propext (by omega)
theorem hK_inj (hw : wfT w T) (hw2 : w < 1000000) {p q a b : Nat} (ha : a < nb T) (hb : b < nb T) (h : hK T p q a = hK T p q b) : a = b := by
  have h1 := hK_lt (p := p) (q := q) hw hw2 ha hb
  have h2 := hK_lt (p := p) (q := q) hw hw2 hb ha
  rw [h] at h1 h2
  have e : tt T a = tt T b := by
    have n1 : ¬ (zb_N (ts_comes T p q b) < zb_N (ts_comes T p q a) ∨ (zb_N (ts_comes T p q a) = zb_N (ts_comes T p q b) ∧ tt T a < tt T b)) := fun z => Nat.lt_irrefl _ (h1.mpr z)
    have n2 : ¬ (zb_N (ts_comes T p q a) < zb_N (ts_comes T p q b) ∨ (zb_N (ts_comes T p q b) = zb_N (ts_comes T p q a) ∧ tt T b < tt T a)) := fun z => Nat.lt_irrefl _ (h2.mpr z)
    omega
  exact hw.2.2.2.2.2 a b ha hb (by rw [(hw.tx ha).1, (hw.tx hb).1, e])
theorem W_isHeavier {C : jm_M} (hw : wfT w (C 1)) (hw2 : w < 1000000) {p q a b : Nat} (ha : a < nb (C 1)) (hb : b < nb (C 1)) : sW_isHeavier C (nI p) (nI q) (nI a) (nI b) = some (if hK (C 1) p q a < hK (C 1) p q b then 1 else 0) := by
  have h10 := hw.1.b.2
  obtain ⟨a1, a1'⟩ := zb_in_N (ts_comes_in hw hw2 ha p q) (by omega)
  obtain ⟨b1, b1'⟩ := zb_in_N (ts_comes_in hw hw2 hb p q) (by omega)
  obtain ⟨a2, a2'⟩ := hw.tx ha
  obtain ⟨b2, b2'⟩ := hw.tx hb
  have e := hK_lt (p := p) (q := q) hw hw2 ha hb
  unfold sW_isHeavier
  rw [T_comesTo hw.1 (by omega), T_comesTo hw.1 (by omega), zb_bs, zb_bs, zb_rd (by omega) (by omega), zb_rd (by omega) (by omega), zb_bs, zb_bs, a1, b1, a2, b2]
  generalize zb_N (ts_comes (C 1) p q a) = x at *
  generalize zb_N (ts_comes (C 1) p q b) = y at *
  by_cases c1 : y < x
  · rw [if_pos (show nI y < nI x by rw [zb_lt (by omega) (by omega)]; exact c1), if_pos (e.mpr (Or.inl c1))]
  · rw [if_neg (show ¬ nI y < nI x by rw [zb_lt (by omega) (by omega)]; exact c1)]
    by_cases c2 : x = y
    · rw [if_pos (by rw [c2])]
      by_cases c3 : tt (C 1) a < tt (C 1) b
      · rw [if_neg (zb_nle c3 (by omega)), if_pos (e.mpr (Or.inr ⟨c2, c3⟩))]
      · rw [if_pos (zb_yle (by omega) (by omega)), if_neg (fun z => (e.mp z).elim (fun z => c1 z) (fun z => c3 z.2))]
    · rw [if_neg (show ¬ nI x = nI y by rw [zb_eq (by omega) (by omega)]; exact c2), if_neg (fun z => (e.mp z).elim (fun z => c1 z) (fun z => c2 z.1))]
theorem M_isHeavier (hw : wfT w T) (hw2 : w < 1000000) (hr : TR T (M 0)) {p q a b : Nat} (ha : a < nb T) (hb : b < nb T) : sM_isHeavier M (nI a) (nI b) (nI p) (nI q) = some (if hK T p q a < hK T p q b then 1 else 0) := by
  have h10 := hw.1.b.2
  obtain ⟨a1, a1'⟩ := zb_in_N (ts_comes_in hw hw2 ha p q) (by omega)
  obtain ⟨b1, b1'⟩ := zb_in_N (ts_comes_in hw hw2 hb p q) (by omega)
  obtain ⟨a2, a2'⟩ := hw.tx ha
  obtain ⟨b2, b2'⟩ := hw.tx hb
  have e := hK_lt (p := p) (q := q) hw hw2 ha hb
  obtain ⟨c, c1, c2⟩ := M_compares hr hw.1 ha hb
  rw [a2, b2, zb_le (by omega) (by omega)] at c2
  unfold sM_isHeavier
  rw [M_comesTo hw hw2 hr ha, M_comesTo hw hw2 hr hb, zb_bs, zb_bs, a1, b1, c1, zb_bs]
  generalize zb_N (ts_comes T p q a) = x at *
  generalize zb_N (ts_comes T p q b) = y at *
  by_cases c3 : x = y
  · rw [if_pos (by rw [c3])]
    by_cases c4 : tt T a < tt T b
    · rw [if_neg (fun z => by have := c2.mp z; omega), if_pos (e.mpr (Or.inr ⟨c3, c4⟩))]
    · rw [if_pos (c2.mpr (by omega)), if_neg (fun z => (e.mp z).elim (fun z => by omega) (fun z => c4 z.2))]
  · rw [if_neg (show ¬ nI x = nI y by rw [zb_eq (by omega) (by omega)]; exact c3)]
    by_cases c4 : y < x
    · rw [if_neg (zb_nle c4 (by omega)), if_pos (e.mpr (Or.inl c4))]
    · rw [if_pos (zb_yle (by omega) (by omega)), if_neg (fun z => (e.mp z).elim (fun z => c4 z) (fun z => c3 z.1))]
theorem M_heavierThan (hw : wfT w T) (hw2 : w < 1000000) (hr : TR T (M 0)) {p q b : Nat} (hb : b < nb T) : sM_heavierThan M (nI b) (nI p) (nI q) = some (nI (zc (fun a => ts_on T p q a ∧ hK T p q a < hK T p q b) (nb T))) := by
  have h := hw.1.b
  unfold sM_heavierThan
  refine zb_forB (fun n => (nI (zc (fun a => ts_on T p q a ∧ hK T p q a < hK T p q b) n), nI n)) _ (nb T) rfl ?_ ?_ (by omega) rfl
  · intro k hk
    have e : zc (fun a => ts_on T p q a ∧ hK T p q a < hK T p q b) (k + 1) = if ts_on T p q k ∧ hK T p q k < hK T p q b then zc (fun a => ts_on T p q a ∧ hK T p q a < hK T p q b) k + 1 else zc (fun a => ts_on T p q a ∧ hK T p q a < hK T p q b) k := rfl
    rw [e]
    generalize zc (fun a => ts_on T p q a ∧ hK T p q a < hK T p q b) k = c
    unfold sM_heavierThan_L6
    simp only [zb_bs, Int32.add_zero, nI_1]
    rw [hr.1.2.1, h.1, if_neg (zb_nle hk (by omega)), M_isHeld hr hw.1 hk, M_isHeavier hw hw2 hr hk hb, zb_bs, zb_bs]
    by_cases c1 : k = b
    · subst c1
      rw [if_pos rfl, if_neg (fun z => Nat.lt_irrefl _ z.2)]
    · rw [if_neg (show ¬ nI k = nI b by rw [zb_eq (by omega) (by omega)]; exact c1)]
      by_cases c2 : ts_on T p q k
      · rw [if_pos c2, zb_i10]
        by_cases c3 : hK T p q k < hK T p q b
        · rw [if_pos c3, zb_i10, if_pos ⟨c2, c3⟩]
        · rw [if_neg c3, zb_i00, if_neg (fun z => c3 z.2)]
      · rw [if_neg c2, zb_i00, if_neg (fun z => c2 z.1)]
  · unfold sM_heavierThan_L6
    rw [hr.1.2.1, h.1, if_pos (zb_yle (Nat.le_refl _) (by omega))]
theorem M_heaviestA (hw : wfT w T) (hw2 : w < 1000000) (hr : TR T (M 0)) {p q i : Nat} {x : Int32} (hx : x = nI i ∧ i < 1000 ∨ (i = 100 ∧ nI 100 ≤ x)) {r : Option Nat} (hf : zb_ff (fun b => ts_on T p q b ∧ zc (fun a => ts_on T p q a ∧ hK T p q a < hK T p q b) (nb T) = i) (nb T) r) : Option.bind (jm_loop (sM_heaviest_L40 M (nI p) (nI q) x) jm_N 0) (Sum.elim (fun e12 => some ((-9), M)) some) = some (zb_o r, M) := by
  have h := hw.1.b
  have stp : ∀ k, k < nb T → sM_heaviest_L40 M (nI p) (nI q) x (nI k) = if ts_on T p q k ∧ zc (fun a => ts_on T p q a ∧ hK T p q a < hK T p q k) (nb T) = i then some (.inr (.inr (nI k, M))) else some (.inl (nI (k + 1))) := by
    intro k hk
    have hc := zc_le (fun a => ts_on T p q a ∧ hK T p q a < hK T p q k) (nb T)
    unfold sM_heaviest_L40
    rw [hr.1.2.1, h.1, if_neg (zb_nle hk (by omega)), M_isHeld hr hw.1 hk, zb_bs, M_heavierThan hw hw2 hr hk, zb_bs, nI_1]
    generalize zc (fun a => ts_on T p q a ∧ hK T p q a < hK T p q k) (nb T) = c at *
    by_cases c2 : ts_on T p q k
    · rw [if_pos c2, zb_i10]
      by_cases c3 : c = i
      · have : nI c = x := by
          rcases hx with ⟨hx, -⟩ | ⟨hx, -⟩
          · rw [hx, c3]
          · omega
        rw [if_pos this, if_pos ⟨c2, c3⟩]
      · have : ¬ nI c = x := by
          rcases hx with ⟨hx, hi⟩ | ⟨-, hx⟩
          · rw [hx, zb_eq (by omega) (by omega)]; exact c3
          · intro z
            rw [← z, zb_le (by omega) (by omega)] at hx
            omega
        rw [if_neg this, if_neg (fun z => c3 z.2)]
    · rw [if_neg c2, zb_i00, if_neg (fun z => c2 z.1)]
  cases r with
  | none =>
    refine zb_forB (fun k => nI k) (.inl ()) (nb T) rfl (fun k hk => ?_) ?_ (by omega) rfl
    · rw [stp k hk, if_neg (hf k hk)]
    · unfold sM_heaviest_L40
      rw [hr.1.2.1, h.1, if_pos (zb_yle (Nat.le_refl _) (by omega))]
  | some k =>
    obtain ⟨hk, h2, h3⟩ := hf
    refine zb_forB (fun k => nI k) (.inr (nI k, M)) k rfl (fun j hj => ?_) ?_ (by omega) rfl
    · rw [stp j (by omega), if_neg (h3 j hj)]
    · rw [stp k hk, if_pos h2]
end
