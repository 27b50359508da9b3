/-! weeks with and without reading may change places -/
theorem nx_ptA {T : jm_T} {j c : Nat} {x : Int32} (hj : j < 9) (p : Nat) : ∀ n, nx (pt T j c x) p n = nx T p n := by
  intro n
  unfold nx
  refine zf_congr n none (fun k _ o => ?_)
  unfold nxF ts_rd lessT
  rw [pt_j (show ¬ 9 = j by omega), pt_j (show ¬ 10 = j by omega), pt_j (show ¬ 11 = j by omega)]
theorem rd_ptA {T : jm_T} {j c : Nat} {x : Int32} (hj : j < 8) (hc : j = 0 → ¬ c = 4) (p : Nat) : rdN p (pt T j c x) = pt (rdN p T) j c x := by
  have hn : nb (pt T j c x) = nb T := by
    refine nb_e ?_
    by_cases e : j = 0
    · subst e; exact pt_k (by have := hc rfl; omega)
    · exact congrFun (pt_j (by omega)) 4
  unfold rdN
  rw [hn, nx_ptA (by omega)]
  cases nx T p (nb T) with
  | none => rfl
  | some b =>
    show rdB (pt T j c x) p b = pt (rdB T p b) j c x
    unfold rdB
    rw [pt_j (show ¬ 10 = j by omega), pt_j (show ¬ 8 = j by omega), pt_comm (show ¬ j = 10 by omega), pt_comm (show ¬ j = 9 by omega)]
theorem rd_ea (T : jm_T) (p q : Nat) : rdN p (eaN q T) = eaN q (rdN p T) := by
  unfold eaN
  rw [rdN_j p T 3 (by omega), rdN_j p T 0 (by omega), rdN_j p T 2 (by omega)]
  split
  · exact rd_ptA (by omega) (fun e => by omega) p
  · rfl
theorem rd_eas (T : jm_T) (p : Nat) : ∀ n, rdN p (zf eaN n T) = zf eaN n (rdN p T) := by
  intro n
  induction n with
  | zero => rfl
  | succ n ih => rw [zf, zf, rd_ea, ih]
theorem rds_eas (T : jm_T) (m : Nat) : ∀ n, zf rdN n (zf eaN m T) = zf eaN m (zf rdN n T) := by
  intro n
  induction n with
  | zero => rfl
  | succ n ih => rw [zf, zf, ih, rd_eas]
theorem ea_rds (T : jm_T) (q : Nat) : ∀ n, zf rdN n (eaN q T) = eaN q (zf rdN n T) := by
  intro n
  induction n with
  | zero => rfl
  | succ n ih => rw [zf, zf, ih, rd_ea]
theorem go_split (T : jm_T) : ∀ n, zf (goP true) n T = zf rdN n (zf eaN n T) := by
  intro n
  induction n with
  | zero => rfl
  | succ n ih =>
    rw [zf, zf, zf, ih]
    show rdN n (eaN n (zf rdN n (zf eaN n T))) = _
    rw [ea_rds]
theorem go_split0 (T : jm_T) : ∀ n, zf (goP false) n T = zf eaN n T := by
  intro n
  induction n with
  | zero => rfl
  | succ n ih =>
    rw [zf, zf, ih]
    rfl
theorem rds_j (T : jm_T) (n : Nat) (j : Nat) (hj : ¬ j = 9 ∧ ¬ j = 10) : zf rdN n T j = T j := by
  induction n with
  | zero => rfl
  | succ n ih => rw [zf, rdN_j n _ j hj, ih]
theorem rds_wk (T : jm_T) : ∀ n, zf rdN n (wkT T) = wkT (zf rdN n T) := by
  intro n
  induction n with
  | zero => rfl
  | succ n ih =>
    rw [zf, zf, ih]
    unfold wkT
    rw [rdN_j n _ 0 (by omega)]
    exact rd_ptA (by omega) (fun _ => by omega) n
theorem wk_comm (T : jm_T) : wkS true (wkS false T) = wkS false (wkS true T) := by
  have e1 : np (wkS false T) = np T := np_wkS false T
  have e2 : np (wkS true T) = np T := np_wkS true T
  have a : wkS true (wkS false T) = zf (goP true) (np T) (wkT (wkS false T)) := by unfold wkS; rw [show np (zf (goP false) (np T) (wkT T)) = np T from e1]
  have b : wkS false (wkS true T) = zf (goP false) (np T) (wkT (wkS true T)) := by unfold wkS; rw [show np (zf (goP true) (np T) (wkT T)) = np T from e2]
  rw [a, b, go_split, go_split0]
  unfold wkS
  rw [go_split, go_split0, rds_eas, rds_wk]
