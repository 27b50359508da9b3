/-! what is now, changed; what was, kept -/
theorem zb_sub1 {a : Nat} (h : 1 ≤ a) : nI a - 1 = nI (a - 1) := pk_sub h
theorem TR_upJ {T : jm_T} {M : jm_M} (hr : TR T (M 0)) {jT jM i : Nat} {v : Int32} (hj : (jT = 2 ∧ jM = 2) ∨ (jT = 4 ∧ jM = 4) ∨ (jT = 8 ∧ jM = 7) ∨ (jT = 9 ∧ jM = 8) ∨ (jT = 10 ∧ jM = 9) ∨ (jT = 14 ∧ jM = 12) ∨ (jT = 15 ∧ jM = 13) ∨ (jT = 6 ∧ jM = 5) ∨ (jT = 7 ∧ jM = 6)) : TR (pt T jT i v) (jm_up M 0 jM i v 0) := by
  have hp : np (pt T jT i v) = np T := np_e (by rcases hj with ⟨rfl, rfl⟩ | ⟨rfl, rfl⟩ | ⟨rfl, rfl⟩ | ⟨rfl, rfl⟩ | ⟨rfl, rfl⟩ | ⟨rfl, rfl⟩ | ⟨rfl, rfl⟩ | ⟨rfl, rfl⟩ | ⟨rfl, rfl⟩ <;> simp [pt])
  have hb : nb (pt T jT i v) = nb T := nb_e (by rcases hj with ⟨rfl, rfl⟩ | ⟨rfl, rfl⟩ | ⟨rfl, rfl⟩ | ⟨rfl, rfl⟩ | ⟨rfl, rfl⟩ | ⟨rfl, rfl⟩ | ⟨rfl, rfl⟩ | ⟨rfl, rfl⟩ | ⟨rfl, rfl⟩ <;> simp [pt])
  have hs : ns (pt T jT i v) = ns T := ns_e (by rcases hj with ⟨rfl, rfl⟩ | ⟨rfl, rfl⟩ | ⟨rfl, rfl⟩ | ⟨rfl, rfl⟩ | ⟨rfl, rfl⟩ | ⟨rfl, rfl⟩ | ⟨rfl, rfl⟩ | ⟨rfl, rfl⟩ | ⟨rfl, rfl⟩ <;> simp [pt])
  obtain ⟨⟨f1, f2, f3, f4⟩, hrp, hrb, hrs⟩ := hr
  refine ⟨?_, ?_, ?_, ?_⟩
  · rcases hj with ⟨rfl, rfl⟩ | ⟨rfl, rfl⟩ | ⟨rfl, rfl⟩ | ⟨rfl, rfl⟩ | ⟨rfl, rfl⟩ | ⟨rfl, rfl⟩ | ⟨rfl, rfl⟩ | ⟨rfl, rfl⟩ | ⟨rfl, rfl⟩ <;> simp [pt, jm_up, f1, f2, f3, f4]
  · rw [hp]
    intro p h
    obtain ⟨a1, a2, a3⟩ := hrp p h
    rcases hj with ⟨rfl, rfl⟩ | ⟨rfl, rfl⟩ | ⟨rfl, rfl⟩ | ⟨rfl, rfl⟩ | ⟨rfl, rfl⟩ | ⟨rfl, rfl⟩ | ⟨rfl, rfl⟩ | ⟨rfl, rfl⟩ | ⟨rfl, rfl⟩ <;> simp [pt, jm_up, a1, a2, a3]
  · rw [hb]
    intro b h
    obtain ⟨a1, a2, a3, a4, a5, a6⟩ := hrb b h
    have ht : ti (pt T jT i v) (jm_up M 0 jM i v 0) b := by
      unfold ti dg at a6 ⊢
      rcases hj with ⟨rfl, rfl⟩ | ⟨rfl, rfl⟩ | ⟨rfl, rfl⟩ | ⟨rfl, rfl⟩ | ⟨rfl, rfl⟩ | ⟨rfl, rfl⟩ | ⟨rfl, rfl⟩ | ⟨rfl, rfl⟩ | ⟨rfl, rfl⟩ <;> simpa [pt, jm_up] using a6
    refine ⟨?_, ?_, ?_, ?_, ?_, ht⟩
    all_goals
      rcases hj with ⟨rfl, rfl⟩ | ⟨rfl, rfl⟩ | ⟨rfl, rfl⟩ | ⟨rfl, rfl⟩ | ⟨rfl, rfl⟩ | ⟨rfl, rfl⟩ | ⟨rfl, rfl⟩ | ⟨rfl, rfl⟩ | ⟨rfl, rfl⟩ <;> simp [pt, jm_up, a1, a2, a3, a4, a5]
  · rw [hs]
    intro k h
    obtain ⟨a1, a2⟩ := hrs k h
    rcases hj with ⟨rfl, rfl⟩ | ⟨rfl, rfl⟩ | ⟨rfl, rfl⟩ | ⟨rfl, rfl⟩ | ⟨rfl, rfl⟩ | ⟨rfl, rfl⟩ | ⟨rfl, rfl⟩ | ⟨rfl, rfl⟩ | ⟨rfl, rfl⟩ <;> simp [pt, jm_up, a1, a2]
/-- what is now becomes another -/
theorem Inv_now {C M M' : jm_M} {T : jm_T} (h : Inv C M) (hw : wfT 999 T) (hz : ZT T) (hr : TR T (M' 0)) (hm : mF [2, 3, 4, 5, 6, 7, 8, 9, 10, 11, 12, 13] [13, 14, 15, 16] M M') : Inv (stT C 1 T) M' := by
  obtain ⟨⟨i1, i2, i3⟩, im, ⟨m, L, f, p1, p2, p3, p4, p5, p6, p7, p8⟩, ⟨l, l1, l2, l3, l4⟩, ⟨r, r1, r2, r3, r4⟩, rf, zt, z17⟩ := h
  have f0 : ∀ s, ¬ s ∈ [13, 14, 15, 16] → M' 0 0 s = M 0 0 s := fun s hs => hm 0 0 s (fun e => by
    obtain ⟨-, e | e⟩ := e
    · simp at e
    · exact hs e.2)
  have cl : ∀ j, j = 1 ∨ j = 19 ∨ j = 41 ∨ j = 32 → M' 0 j = M 0 j := fun j hj => by
    funext k
    exact hm 0 j k (fun e => by
      obtain ⟨-, e | e⟩ := e
      · simp at e; omega
      · omega)
  refine ⟨⟨?_, ?_, ?_⟩, ?_, ⟨m, L, f, p1, p2, p3, ?_, ?_, ?_, ?_, ?_⟩, ⟨l, l1, ?_, ?_, ?_⟩, ⟨r, r1, ?_, ?_, ?_⟩, ?_, ?_, by rw [stT_n (by omega)]; exact z17⟩
  · rw [stT_s]; exact hw
  · rw [stT_s]; exact hr
  · rw [f0 17 (by decide)]; exact i3
  · rw [stT_n (by omega), stT_n (by omega), f0 32 (by decide), cl 32 (by omega)]; exact im
  · rw [stT_n (by omega)]; exact p4
  · rw [stT_n (by omega)]; exact p5
  · rw [f0 36 (by decide)]; exact p6
  · rw [f0 35 (by decide)]; exact p7
  · intro i hi
    rw [stT_n (by omega), cl 32 (by omega)]; exact p8 i hi
  · rw [stT_n (by omega)]; exact l2
  · rw [f0 26 (by decide)]; exact l3
  · rw [stT_n (by omega), cl 19 (by omega)]; exact l4
  · rw [stT_n (by omega)]; exact r2
  · rw [f0 41 (by decide)]; exact r3
  · rw [stT_n (by omega), cl 41 (by omega)]; exact r4
  · rw [stT_n (by omega), cl 1 (by omega)]; exact rf
  · intro t h1 h2
    by_cases e : t = 1
    · subst e; rw [stT_s]; exact hz
    · rw [stT_n e]; exact zt t h1 h2
/-- a change that can be taken back is told ahead of it -/
theorem st_keep {C M : jm_M} (h : Inv C M) : ∃ C1 M1, sP_keep C 1 = some C1 ∧ sM_remembers M = some M1 ∧ Inv C1 M1 ∧ C1 1 = C 1 := by
  obtain ⟨⟨i1, i2, i3⟩, im, ⟨m, L, f, p1, p2, p3, p4, p5, p6, p7, p8⟩, ⟨l, l1, l2, l3, l4⟩, ⟨r, r1, r2, r3, r4⟩, rf, zt, z17⟩ := h
  have zt' := zt
  have e13 : ∀ T : jm_T, ∀ t, ¬ t = 13 → stT C 13 T t = C t := fun T t ht => stT_n ht
  -- the class
  have hC : sP_keep C 1 = some (stT (stT C 13 (pt (pt (C 13) 0 1 (nI ((L + 1) % 8))) 0 2 (nI (min 8 (m + 1))))) (5 + (L + 1) % 8) (C 1)) := by
    unfold sP_keep
    rw [p5, nI_1, show (8 : Int32) = nI 8 from rfl, zb_rm (by omega) (by omega) (by omega), zb_bs, wf_st, zb_bs, stT_s, show pt (C 13) 0 1 (nI ((L + 1) % 8)) 0 2 = nI m from by rw [pt_k (by omega), p4], nI_1, zb_minI (by omega) (by omega), wf_st, zb_bs, stT_s, stT_2, stT_s, show pt (pt (C 13) 0 1 (nI ((L + 1) % 8))) 0 2 (nI (min 8 (m + 1))) 0 1 = nI ((L + 1) % 8) from by rw [pt_k (by omega), pt_s]]
    have hix : jm_ix 8 (nI ((L + 1) % 8)) = some ((L + 1) % 8) := by
      unfold jm_ix
      rw [if_neg (nI_in (by omega) (by omega)), nI_clamp (by omega)]
    rw [hix, zb_bs, T_copyFrom (by omega) (by rw [stT_n (by omega)]; exact zt _ (by omega) (by omega)) (by rw [stT_n (by omega)]; exact zt _ (by omega) (by omega)), zb_bs, stT_n (by omega)]
  -- the reference
  have hM : ∃ f' M1, f' < 8 ∧ (m = 8 → f' = (f + 1) % 8) ∧ (m < 8 → f' = f) ∧ sM_remembers M = some M1 ∧ M1 0 0 36 = nI (min 8 (m + 1)) ∧ M1 0 0 35 = nI f' ∧ (∀ j i, core j i → dec (M1 0 32) (135 * (3 + (f' + min 8 (m + 1) + 7) % 8)) j i = M 0 j i) ∧ (∀ i, ¬ (135 * (3 + (f' + min 8 (m + 1) + 7) % 8) ≤ i ∧ i < 135 * (3 + (f' + min 8 (m + 1) + 7) % 8) + 134) → M1 0 32 i = M 0 32 i) ∧ mF [32] [33, 34, 35, 36] M M1 := by
    unfold sM_remembers
    by_cases hm : m = 8
    · subst hm
      rw [p6, if_pos (show nI 8 = (8 : Int32) from rfl), p7, nI_1, show (8 : Int32) = nI 8 from rfl, zb_rm (by omega) (by omega) (by omega), zb_bs]
      unfold jm_wf
      rw [zb_bs, zb_bs, zb_up_s, zb_up_n (by omega), p6, nI_add, zb_sub1 (by omega), zb_rm (by omega) (by omega) (by omega), zb_bs, show (3 : Int32) = nI 3 from rfl, nI_add]
      obtain ⟨M1, e1, q1, q2, q3⟩ := M_keepAll (M := jm_up M 0 0 35 (nI ((f + 1) % 8))) (n := 3 + ((f + 1) % 8 + 8 - 1) % 8) (by omega)
      have es : 3 + ((f + 1) % 8 + min 8 (8 + 1) + 7) % 8 = 3 + ((f + 1) % 8 + 8 - 1) % 8 := by omega
      refine ⟨(f + 1) % 8, M1, by omega, fun _ => rfl, fun e => by omega, by rw [e1, zb_bs], ?_, ?_, ?_, ?_, ?_⟩
      · rw [q3 0 0 36 (by decide), zb_up_n (by omega), p6]; rfl
      · rw [q3 0 0 35 (by decide), zb_up_s]
      · intro j i hc
        rw [es, q1 j i hc, zb_up_n (by rcases hc with ⟨h1, h2, h3⟩ | ⟨h1, h2, h3⟩ <;> omega)]
      · intro i hi
        rw [es] at hi
        rw [q2 i hi, zb_up_n (by omega)]
      · exact (mF.up (Or.inr ⟨rfl, by decide⟩)).tr (q3.mono (fun x h => h) (fun x h => by simp at h ⊢; omega))
    · have hm8 : m < 8 := by omega
      rw [p6, if_neg (show ¬ nI m = (8 : Int32) from by rw [show (8 : Int32) = nI 8 from rfl, zb_eq (by omega) (by omega)]; exact hm), nI_1]
      unfold jm_wf
      rw [zb_bs, zb_bs, zb_up_s, zb_up_n (by omega), p7, nI_add, zb_sub1 (by omega), show (8 : Int32) = nI 8 from rfl, zb_rm (by omega) (by omega) (by omega), zb_bs, show (3 : Int32) = nI 3 from rfl, nI_add]
      obtain ⟨M1, e1, q1, q2, q3⟩ := M_keepAll (M := jm_up M 0 0 36 (nI (m + 1))) (n := 3 + (f + (m + 1) - 1) % 8) (by omega)
      have es : 3 + (f + min 8 (m + 1) + 7) % 8 = 3 + (f + (m + 1) - 1) % 8 := by omega
      refine ⟨f, M1, p3, fun e => by omega, fun _ => rfl, by rw [e1, zb_bs], ?_, ?_, ?_, ?_, ?_⟩
      · rw [q3 0 0 36 (by decide), zb_up_s, Nat.min_eq_right (by omega)]
      · rw [q3 0 0 35 (by decide), zb_up_n (by omega), p7]
      · intro j i hc
        rw [es, q1 j i hc, zb_up_n (by rcases hc with ⟨h1, h2, h3⟩ | ⟨h1, h2, h3⟩ <;> omega)]
      · intro i hi
        rw [es] at hi
        rw [q2 i hi, zb_up_n (by omega)]
      · exact (mF.up (Or.inr ⟨rfl, by decide⟩)).tr (q3.mono (fun x h => h) (fun x h => by simp at h ⊢; omega))
  obtain ⟨f', M1, f1, f2, f3, eM, b1, b2, b3, b4, b5⟩ := hM
  refine ⟨_, M1, hC, eM, ?_, by rw [stT_n (by omega), stT_n (by omega)]⟩
  have f0 : ∀ s, ¬ s ∈ [33, 34, 35, 36] → M1 0 0 s = M 0 0 s := fun s hs => b5 0 0 s (fun e => by
    obtain ⟨-, e | e⟩ := e
    · simp at e
    · exact hs e.2)
  have cl : ∀ j, ¬ j = 0 → ¬ j = 32 → M1 0 j = M 0 j := fun j hj hj2 => by
    funext k
    exact b5 0 j k (fun e => by
      obtain ⟨-, e | e⟩ := e
      · simp at e; omega
      · omega)
  have hcore : ∀ j i, core j i → M1 0 j i = M 0 j i := fun j i hc => b5 0 j i (fun e => by
    obtain ⟨-, e⟩ := e
    simp at e
    rcases hc with ⟨h1, h2, h3⟩ | ⟨h1, h2, h3⟩ <;> omega)
  refine ⟨⟨?_, ?_, ?_⟩, ?_, ⟨min 8 (m + 1), (L + 1) % 8, f', by omega, by omega, f1, ?_, ?_, b1, b2, ?_⟩, ⟨l, l1, ?_, ?_, ?_⟩, ⟨r, r1, ?_, ?_, ?_⟩, ?_, ?_, by rw [stT_n (by omega), stT_n (by omega)]; exact z17⟩
  · rw [stT_n (by omega), stT_n (by omega)]; exact i1
  · rw [stT_n (by omega), stT_n (by omega)]; exact TR_core i2 i1.1 hcore
  · rw [f0 17 (by decide)]; exact i3
  · rw [stT_n (show ¬ 0 = 5 + (L + 1) % 8 by omega), stT_n (show ¬ 0 = 13 by omega), stT_n (show ¬ 2 = 5 + (L + 1) % 8 by omega), stT_n (show ¬ 2 = 13 by omega), f0 32 (by decide)]
    rcases im with im | ⟨a1, a2, a3, a4⟩
    · exact Or.inl im
    · exact Or.inr ⟨a1, a2, a3, TR_dec a4 a3.1 (fun i h1 h2 => b4 i (by omega))⟩
  · rw [stT_n (by omega), stT_s, pt_s]
  · rw [stT_n (by omega), stT_s, pt_k (by omega), pt_s]
  · intro i hi
    by_cases hi0 : i = 0
    · subst hi0
      rw [show ((L + 1) % 8 + 8 - 0) % 8 = (L + 1) % 8 by omega, stT_s, Nat.sub_zero]
      exact ⟨i1, TR_core i2 i1.1 b3⟩
    · obtain ⟨q1, q2⟩ := p8 (i - 1) (by omega)
      have e1 : ((L + 1) % 8 + 8 - i) % 8 = (L + 8 - (i - 1)) % 8 := by omega
      have e2 : (f' + min 8 (m + 1) + 7 - i) % 8 = (f + m + 7 - (i - 1)) % 8 := by
        by_cases hm : m = 8
        · have := f2 hm
          omega
        · have := f3 (by omega)
          omega
      rw [e1, e2, stT_n (by omega), stT_n (by omega)]
      refine ⟨q1, TR_dec q2 q1.1 (fun k h1 h2 => b4 k ?_)⟩
      have hne : ¬ (f + m + 7 - (i - 1)) % 8 = (f' + min 8 (m + 1) + 7) % 8 := by
        by_cases hm : m = 8
        · have := f2 hm
          omega
        · have := f3 (by omega)
          omega
      omega
  · rw [stT_n (by omega), stT_n (by omega)]; exact l2
  · rw [f0 26 (by decide)]; exact l3
  · rw [stT_n (by omega), stT_n (by omega), cl 19 (by omega) (by omega)]; exact l4
  · rw [stT_n (by omega), stT_n (by omega)]; exact r2
  · rw [f0 41 (by decide)]; exact r3
  · rw [stT_n (by omega), stT_n (by omega), cl 41 (by omega) (by omega)]; exact r4
  · rw [stT_n (by omega), stT_n (by omega), cl 1 (by omega) (by omega)]; exact rf
  · intro t h1 h2
    by_cases e : t = 5 + (L + 1) % 8
    · subst e; rw [stT_s]; exact zt 1 (by omega) (by omega)
    · rw [stT_n e, stT_n (by omega)]; exact zt t h1 h2
