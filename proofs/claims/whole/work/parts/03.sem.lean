def jm_townF (t : Nat) : List (Option (Nat × Nat)) := [none, some (t, 2), some (t, 3), some (t, 4), none, some (t, 6), some (t, 7), some (t, 8), some (t, 9), some (t, 10), some (t, 11), none, none, some (t, 14), some (t, 15)]
def jm_fsX8 : List (Option (Nat × Nat)) := [some (1, 0), some (13, 0), some (2, 0), none, some (14, 0), some (15, 0), some (16, 0), some (17, 0), some (0, 9), some (0, 10), none, some (0, 12)]
def jm_fsX4 : List (Option (Nat × Nat)) := [some (13, 1), none, none]
def jm_fsX5 : List (Option (Nat × Nat)) := [some (14, 1), none, none, some (3, 0)]
def jm_fsX2 : List (Option (Nat × Nat)) := [some (4, 0), some (15, 2), some (15, 3), none, none, none, none]
def jm_fsX0 : List (Option (Nat × Nat)) := [some (16, 1), some (16, 2), none, none]
def jm_fsX1 : List (Option (Nat × Nat)) := [some (17, 1), some (17, 2), some (17, 3), none]
def jm_fsX9 : List (Option (Nat × Nat)) := [some (0, 1), some (0, 2), some (0, 3), some (0, 4), some (0, 5), some (0, 6), some (0, 7), some (0, 8), some (0, 9), some (0, 10), some (0, 11), some (0, 12), some (0, 13), none, none, none, none, none, some (0, 19), some (0, 20), some (0, 21), some (0, 22), some (0, 23), some (0, 24), some (0, 25), some (0, 26), none, none, none, none, none, some (0, 32), none, none, none, none, none, some (0, 38), some (0, 39), some (0, 40), some (0, 41), none, some (0, 43), none]
def jm_LC : jm_Lay := [
  ((0, 0), .inr (.inl (6, jm_fsX8))),
  ((0, 9), .inl 10),
  ((0, 10), .inl 12),
  ((0, 12), .inl 7),
  ((1, 0), .inr (.inl (5, jm_townF 1))),
  ((1, 2), .inl 6),
  ((1, 3), .inl 6),
  ((1, 4), .inl 6),
  ((1, 6), .inl 10),
  ((1, 7), .inl 10),
  ((1, 8), .inl 10),
  ((1, 9), .inl 10),
  ((1, 10), .inl 10),
  ((1, 11), .inl 10),
  ((1, 14), .inl 6),
  ((1, 15), .inl 6),
  ((2, 0), .inr (.inl (5, jm_townF 2))),
  ((2, 2), .inl 6),
  ((2, 3), .inl 6),
  ((2, 4), .inl 6),
  ((2, 6), .inl 10),
  ((2, 7), .inl 10),
  ((2, 8), .inl 10),
  ((2, 9), .inl 10),
  ((2, 10), .inl 10),
  ((2, 11), .inl 10),
  ((2, 14), .inl 6),
  ((2, 15), .inl 6),
  ((3, 0), .inr (.inl (5, jm_townF 3))),
  ((3, 2), .inl 6),
  ((3, 3), .inl 6),
  ((3, 4), .inl 6),
  ((3, 6), .inl 10),
  ((3, 7), .inl 10),
  ((3, 8), .inl 10),
  ((3, 9), .inl 10),
  ((3, 10), .inl 10),
  ((3, 11), .inl 10),
  ((3, 14), .inl 6),
  ((3, 15), .inl 6),
  ((4, 0), .inr (.inl (5, jm_townF 4))),
  ((4, 2), .inl 6),
  ((4, 3), .inl 6),
  ((4, 4), .inl 6),
  ((4, 6), .inl 10),
  ((4, 7), .inl 10),
  ((4, 8), .inl 10),
  ((4, 9), .inl 10),
  ((4, 10), .inl 10),
  ((4, 11), .inl 10),
  ((4, 14), .inl 6),
  ((4, 15), .inl 6),
  ((5, 0), .inr (.inl (5, jm_townF 5))),
  ((5, 2), .inl 6),
  ((5, 3), .inl 6),
  ((5, 4), .inl 6),
  ((5, 6), .inl 10),
  ((5, 7), .inl 10),
  ((5, 8), .inl 10),
  ((5, 9), .inl 10),
  ((5, 10), .inl 10),
  ((5, 11), .inl 10),
  ((5, 14), .inl 6),
  ((5, 15), .inl 6),
  ((6, 0), .inr (.inl (5, jm_townF 6))),
  ((6, 2), .inl 6),
  ((6, 3), .inl 6),
  ((6, 4), .inl 6),
  ((6, 6), .inl 10),
  ((6, 7), .inl 10),
  ((6, 8), .inl 10),
  ((6, 9), .inl 10),
  ((6, 10), .inl 10),
  ((6, 11), .inl 10),
  ((6, 14), .inl 6),
  ((6, 15), .inl 6),
  ((7, 0), .inr (.inl (5, jm_townF 7))),
  ((7, 2), .inl 6),
  ((7, 3), .inl 6),
  ((7, 4), .inl 6),
  ((7, 6), .inl 10),
  ((7, 7), .inl 10),
  ((7, 8), .inl 10),
  ((7, 9), .inl 10),
  ((7, 10), .inl 10),
  ((7, 11), .inl 10),
  ((7, 14), .inl 6),
  ((7, 15), .inl 6),
  ((8, 0), .inr (.inl (5, jm_townF 8))),
  ((8, 2), .inl 6),
  ((8, 3), .inl 6),
  ((8, 4), .inl 6),
  ((8, 6), .inl 10),
  ((8, 7), .inl 10),
  ((8, 8), .inl 10),
  ((8, 9), .inl 10),
  ((8, 10), .inl 10),
  ((8, 11), .inl 10),
  ((8, 14), .inl 6),
  ((8, 15), .inl 6),
  ((9, 0), .inr (.inl (5, jm_townF 9))),
  ((9, 2), .inl 6),
  ((9, 3), .inl 6),
  ((9, 4), .inl 6),
  ((9, 6), .inl 10),
  ((9, 7), .inl 10),
  ((9, 8), .inl 10),
  ((9, 9), .inl 10),
  ((9, 10), .inl 10),
  ((9, 11), .inl 10),
  ((9, 14), .inl 6),
  ((9, 15), .inl 6),
  ((10, 0), .inr (.inl (5, jm_townF 10))),
  ((10, 2), .inl 6),
  ((10, 3), .inl 6),
  ((10, 4), .inl 6),
  ((10, 6), .inl 10),
  ((10, 7), .inl 10),
  ((10, 8), .inl 10),
  ((10, 9), .inl 10),
  ((10, 10), .inl 10),
  ((10, 11), .inl 10),
  ((10, 14), .inl 6),
  ((10, 15), .inl 6),
  ((11, 0), .inr (.inl (5, jm_townF 11))),
  ((11, 2), .inl 6),
  ((11, 3), .inl 6),
  ((11, 4), .inl 6),
  ((11, 6), .inl 10),
  ((11, 7), .inl 10),
  ((11, 8), .inl 10),
  ((11, 9), .inl 10),
  ((11, 10), .inl 10),
  ((11, 11), .inl 10),
  ((11, 14), .inl 6),
  ((11, 15), .inl 6),
  ((12, 0), .inr (.inl (5, jm_townF 12))),
  ((12, 2), .inl 6),
  ((12, 3), .inl 6),
  ((12, 4), .inl 6),
  ((12, 6), .inl 10),
  ((12, 7), .inl 10),
  ((12, 8), .inl 10),
  ((12, 9), .inl 10),
  ((12, 10), .inl 10),
  ((12, 11), .inl 10),
  ((12, 14), .inl 6),
  ((12, 15), .inl 6),
  ((13, 0), .inr (.inl (3, jm_fsX4))),
  ((13, 1), .inr (.inr [(5, 0), (6, 0), (7, 0), (8, 0), (9, 0), (10, 0), (11, 0), (12, 0)])),
  ((14, 0), .inr (.inl (4, jm_fsX5))),
  ((14, 1), .inl 96),
  ((15, 0), .inr (.inl (2, jm_fsX2))),
  ((15, 2), .inl 4),
  ((15, 3), .inl 4),
  ((16, 0), .inr (.inl (0, jm_fsX0))),
  ((16, 1), .inl 10),
  ((16, 2), .inl 10),
  ((17, 0), .inr (.inl (1, jm_fsX1))),
  ((17, 1), .inl 6),
  ((17, 2), .inl 64),
  ((17, 3), .inl 6)]
def jm_LM : jm_Lay := [
  ((0, 0), .inr (.inl (7, jm_fsX9))),
  ((0, 1), .inl 7),
  ((0, 2), .inl 6),
  ((0, 3), .inl 6),
  ((0, 4), .inl 6),
  ((0, 5), .inl 10),
  ((0, 6), .inl 10),
  ((0, 7), .inl 10),
  ((0, 8), .inl 10),
  ((0, 9), .inl 10),
  ((0, 10), .inl 10),
  ((0, 11), .inl 40),
  ((0, 12), .inl 6),
  ((0, 13), .inl 6),
  ((0, 19), .inl 96),
  ((0, 20), .inl 49),
  ((0, 21), .inl 49),
  ((0, 22), .inl 147),
  ((0, 23), .inl 49),
  ((0, 24), .inl 49),
  ((0, 25), .inl 97),
  ((0, 26), .inl 97),
  ((0, 32), .inl 1500),
  ((0, 38), .inl 36),
  ((0, 39), .inl 64),
  ((0, 40), .inl 6),
  ((0, 41), .inl 12),
  ((0, 43), .inl 8)]
def jm_isT (t : Nat) : Prop := 1 ≤ t ∧ t ≤ 12
theorem isT_1 : jm_isT 1 := ⟨by decide, by decide⟩
theorem isT_2 : jm_isT 2 := ⟨by decide, by decide⟩
theorem isT_3 : jm_isT 3 := ⟨by decide, by decide⟩
theorem isT_4 : jm_isT 4 := ⟨by decide, by decide⟩
theorem isT_k {k : Nat} (h : k < 8) : jm_isT (5 + k) := ⟨by omega, by omega⟩
theorem jm_Tcases {t : Nat} (h : jm_isT t) : t = 1 ∨ t = 2 ∨ t = 3 ∨ t = 4 ∨ t = 5 ∨ t = 6 ∨ t = 7 ∨ t = 8 ∨ t = 9 ∨ t = 10 ∨ t = 11 ∨ t = 12 := by
  obtain ⟨h1, h2⟩ := h
  omega
theorem lo_T {t : Nat} (h : jm_isT t) : jm_obj jm_LC t 5 (jm_townF t) := by
  rcases jm_Tcases h with rfl | rfl | rfl | rfl | rfl | rfl | rfl | rfl | rfl | rfl | rfl | rfl
  · exact ⟨4, rfl⟩
  · exact ⟨16, rfl⟩
  · exact ⟨28, rfl⟩
  · exact ⟨40, rfl⟩
  · exact ⟨52, rfl⟩
  · exact ⟨64, rfl⟩
  · exact ⟨76, rfl⟩
  · exact ⟨88, rfl⟩
  · exact ⟨100, rfl⟩
  · exact ⟨112, rfl⟩
  · exact ⟨124, rfl⟩
  · exact ⟨136, rfl⟩
theorem la_T_2 {t : Nat} (h : jm_isT t) : jm_arr jm_LC t 2 6 := by
  rcases jm_Tcases h with rfl | rfl | rfl | rfl | rfl | rfl | rfl | rfl | rfl | rfl | rfl | rfl
  · exact ⟨5, rfl⟩
  · exact ⟨17, rfl⟩
  · exact ⟨29, rfl⟩
  · exact ⟨41, rfl⟩
  · exact ⟨53, rfl⟩
  · exact ⟨65, rfl⟩
  · exact ⟨77, rfl⟩
  · exact ⟨89, rfl⟩
  · exact ⟨101, rfl⟩
  · exact ⟨113, rfl⟩
  · exact ⟨125, rfl⟩
  · exact ⟨137, rfl⟩
theorem la_T_3 {t : Nat} (h : jm_isT t) : jm_arr jm_LC t 3 6 := by
  rcases jm_Tcases h with rfl | rfl | rfl | rfl | rfl | rfl | rfl | rfl | rfl | rfl | rfl | rfl
  · exact ⟨6, rfl⟩
  · exact ⟨18, rfl⟩
  · exact ⟨30, rfl⟩
  · exact ⟨42, rfl⟩
  · exact ⟨54, rfl⟩
  · exact ⟨66, rfl⟩
  · exact ⟨78, rfl⟩
  · exact ⟨90, rfl⟩
  · exact ⟨102, rfl⟩
  · exact ⟨114, rfl⟩
  · exact ⟨126, rfl⟩
  · exact ⟨138, rfl⟩
theorem la_T_4 {t : Nat} (h : jm_isT t) : jm_arr jm_LC t 4 6 := by
  rcases jm_Tcases h with rfl | rfl | rfl | rfl | rfl | rfl | rfl | rfl | rfl | rfl | rfl | rfl
  · exact ⟨7, rfl⟩
  · exact ⟨19, rfl⟩
  · exact ⟨31, rfl⟩
  · exact ⟨43, rfl⟩
  · exact ⟨55, rfl⟩
  · exact ⟨67, rfl⟩
  · exact ⟨79, rfl⟩
  · exact ⟨91, rfl⟩
  · exact ⟨103, rfl⟩
  · exact ⟨115, rfl⟩
  · exact ⟨127, rfl⟩
  · exact ⟨139, rfl⟩
theorem la_T_6 {t : Nat} (h : jm_isT t) : jm_arr jm_LC t 6 10 := by
  rcases jm_Tcases h with rfl | rfl | rfl | rfl | rfl | rfl | rfl | rfl | rfl | rfl | rfl | rfl
  · exact ⟨8, rfl⟩
  · exact ⟨20, rfl⟩
  · exact ⟨32, rfl⟩
  · exact ⟨44, rfl⟩
  · exact ⟨56, rfl⟩
  · exact ⟨68, rfl⟩
  · exact ⟨80, rfl⟩
  · exact ⟨92, rfl⟩
  · exact ⟨104, rfl⟩
  · exact ⟨116, rfl⟩
  · exact ⟨128, rfl⟩
  · exact ⟨140, rfl⟩
theorem la_T_7 {t : Nat} (h : jm_isT t) : jm_arr jm_LC t 7 10 := by
  rcases jm_Tcases h with rfl | rfl | rfl | rfl | rfl | rfl | rfl | rfl | rfl | rfl | rfl | rfl
  · exact ⟨9, rfl⟩
  · exact ⟨21, rfl⟩
  · exact ⟨33, rfl⟩
  · exact ⟨45, rfl⟩
  · exact ⟨57, rfl⟩
  · exact ⟨69, rfl⟩
  · exact ⟨81, rfl⟩
  · exact ⟨93, rfl⟩
  · exact ⟨105, rfl⟩
  · exact ⟨117, rfl⟩
  · exact ⟨129, rfl⟩
  · exact ⟨141, rfl⟩
theorem la_T_8 {t : Nat} (h : jm_isT t) : jm_arr jm_LC t 8 10 := by
  rcases jm_Tcases h with rfl | rfl | rfl | rfl | rfl | rfl | rfl | rfl | rfl | rfl | rfl | rfl
  · exact ⟨10, rfl⟩
  · exact ⟨22, rfl⟩
  · exact ⟨34, rfl⟩
  · exact ⟨46, rfl⟩
  · exact ⟨58, rfl⟩
  · exact ⟨70, rfl⟩
  · exact ⟨82, rfl⟩
  · exact ⟨94, rfl⟩
  · exact ⟨106, rfl⟩
  · exact ⟨118, rfl⟩
  · exact ⟨130, rfl⟩
  · exact ⟨142, rfl⟩
theorem la_T_9 {t : Nat} (h : jm_isT t) : jm_arr jm_LC t 9 10 := by
  rcases jm_Tcases h with rfl | rfl | rfl | rfl | rfl | rfl | rfl | rfl | rfl | rfl | rfl | rfl
  · exact ⟨11, rfl⟩
  · exact ⟨23, rfl⟩
  · exact ⟨35, rfl⟩
  · exact ⟨47, rfl⟩
  · exact ⟨59, rfl⟩
  · exact ⟨71, rfl⟩
  · exact ⟨83, rfl⟩
  · exact ⟨95, rfl⟩
  · exact ⟨107, rfl⟩
  · exact ⟨119, rfl⟩
  · exact ⟨131, rfl⟩
  · exact ⟨143, rfl⟩
theorem la_T_10 {t : Nat} (h : jm_isT t) : jm_arr jm_LC t 10 10 := by
  rcases jm_Tcases h with rfl | rfl | rfl | rfl | rfl | rfl | rfl | rfl | rfl | rfl | rfl | rfl
  · exact ⟨12, rfl⟩
  · exact ⟨24, rfl⟩
  · exact ⟨36, rfl⟩
  · exact ⟨48, rfl⟩
  · exact ⟨60, rfl⟩
  · exact ⟨72, rfl⟩
  · exact ⟨84, rfl⟩
  · exact ⟨96, rfl⟩
  · exact ⟨108, rfl⟩
  · exact ⟨120, rfl⟩
  · exact ⟨132, rfl⟩
  · exact ⟨144, rfl⟩
theorem la_T_11 {t : Nat} (h : jm_isT t) : jm_arr jm_LC t 11 10 := by
  rcases jm_Tcases h with rfl | rfl | rfl | rfl | rfl | rfl | rfl | rfl | rfl | rfl | rfl | rfl
  · exact ⟨13, rfl⟩
  · exact ⟨25, rfl⟩
  · exact ⟨37, rfl⟩
  · exact ⟨49, rfl⟩
  · exact ⟨61, rfl⟩
  · exact ⟨73, rfl⟩
  · exact ⟨85, rfl⟩
  · exact ⟨97, rfl⟩
  · exact ⟨109, rfl⟩
  · exact ⟨121, rfl⟩
  · exact ⟨133, rfl⟩
  · exact ⟨145, rfl⟩
theorem la_T_14 {t : Nat} (h : jm_isT t) : jm_arr jm_LC t 14 6 := by
  rcases jm_Tcases h with rfl | rfl | rfl | rfl | rfl | rfl | rfl | rfl | rfl | rfl | rfl | rfl
  · exact ⟨14, rfl⟩
  · exact ⟨26, rfl⟩
  · exact ⟨38, rfl⟩
  · exact ⟨50, rfl⟩
  · exact ⟨62, rfl⟩
  · exact ⟨74, rfl⟩
  · exact ⟨86, rfl⟩
  · exact ⟨98, rfl⟩
  · exact ⟨110, rfl⟩
  · exact ⟨122, rfl⟩
  · exact ⟨134, rfl⟩
  · exact ⟨146, rfl⟩
theorem la_T_15 {t : Nat} (h : jm_isT t) : jm_arr jm_LC t 15 6 := by
  rcases jm_Tcases h with rfl | rfl | rfl | rfl | rfl | rfl | rfl | rfl | rfl | rfl | rfl | rfl
  · exact ⟨15, rfl⟩
  · exact ⟨27, rfl⟩
  · exact ⟨39, rfl⟩
  · exact ⟨51, rfl⟩
  · exact ⟨63, rfl⟩
  · exact ⟨75, rfl⟩
  · exact ⟨87, rfl⟩
  · exact ⟨99, rfl⟩
  · exact ⟨111, rfl⟩
  · exact ⟨123, rfl⟩
  · exact ⟨135, rfl⟩
  · exact ⟨147, rfl⟩
theorem lo_X8 : jm_obj jm_LC 0 6 jm_fsX8 := ⟨0, rfl⟩
theorem la_X8_9 : jm_arr jm_LC 0 9 10 := ⟨1, rfl⟩
theorem la_X8_10 : jm_arr jm_LC 0 10 12 := ⟨2, rfl⟩
theorem la_X8_12 : jm_arr jm_LC 0 12 7 := ⟨3, rfl⟩
theorem lo_X4 : jm_obj jm_LC 13 3 jm_fsX4 := ⟨148, rfl⟩
theorem lr_X4_1 : jm_rar jm_LC 13 1 [(5, 0), (6, 0), (7, 0), (8, 0), (9, 0), (10, 0), (11, 0), (12, 0)] := ⟨149, rfl⟩
theorem lo_X5 : jm_obj jm_LC 14 4 jm_fsX5 := ⟨150, rfl⟩
theorem la_X5_1 : jm_arr jm_LC 14 1 96 := ⟨151, rfl⟩
theorem lo_X2 : jm_obj jm_LC 15 2 jm_fsX2 := ⟨152, rfl⟩
theorem la_X2_2 : jm_arr jm_LC 15 2 4 := ⟨153, rfl⟩
theorem la_X2_3 : jm_arr jm_LC 15 3 4 := ⟨154, rfl⟩
theorem lo_X0 : jm_obj jm_LC 16 0 jm_fsX0 := ⟨155, rfl⟩
theorem la_X0_1 : jm_arr jm_LC 16 1 10 := ⟨156, rfl⟩
theorem la_X0_2 : jm_arr jm_LC 16 2 10 := ⟨157, rfl⟩
theorem lo_X1 : jm_obj jm_LC 17 1 jm_fsX1 := ⟨158, rfl⟩
theorem la_X1_1 : jm_arr jm_LC 17 1 6 := ⟨159, rfl⟩
theorem la_X1_2 : jm_arr jm_LC 17 2 64 := ⟨160, rfl⟩
theorem la_X1_3 : jm_arr jm_LC 17 3 6 := ⟨161, rfl⟩
theorem jm_keptk : ∀ k, k < 8 → ([(5, 0), (6, 0), (7, 0), (8, 0), (9, 0), (10, 0), (11, 0), (12, 0)] : List (Nat × Nat))[k]? = some (5 + k, 0) := by
  intro k h
  rcases (show k = 0 ∨ k = 1 ∨ k = 2 ∨ k = 3 ∨ k = 4 ∨ k = 5 ∨ k = 6 ∨ k = 7 by omega) with rfl | rfl | rfl | rfl | rfl | rfl | rfl | rfl <;> rfl
theorem lo_X9 : jm_obj jm_LM 0 7 jm_fsX9 := ⟨0, rfl⟩
theorem la_X9_1 : jm_arr jm_LM 0 1 7 := ⟨1, rfl⟩
theorem la_X9_2 : jm_arr jm_LM 0 2 6 := ⟨2, rfl⟩
theorem la_X9_3 : jm_arr jm_LM 0 3 6 := ⟨3, rfl⟩
theorem la_X9_4 : jm_arr jm_LM 0 4 6 := ⟨4, rfl⟩
theorem la_X9_5 : jm_arr jm_LM 0 5 10 := ⟨5, rfl⟩
theorem la_X9_6 : jm_arr jm_LM 0 6 10 := ⟨6, rfl⟩
theorem la_X9_7 : jm_arr jm_LM 0 7 10 := ⟨7, rfl⟩
theorem la_X9_8 : jm_arr jm_LM 0 8 10 := ⟨8, rfl⟩
theorem la_X9_9 : jm_arr jm_LM 0 9 10 := ⟨9, rfl⟩
theorem la_X9_10 : jm_arr jm_LM 0 10 10 := ⟨10, rfl⟩
theorem la_X9_11 : jm_arr jm_LM 0 11 40 := ⟨11, rfl⟩
theorem la_X9_12 : jm_arr jm_LM 0 12 6 := ⟨12, rfl⟩
theorem la_X9_13 : jm_arr jm_LM 0 13 6 := ⟨13, rfl⟩
theorem la_X9_19 : jm_arr jm_LM 0 19 96 := ⟨14, rfl⟩
theorem la_X9_20 : jm_arr jm_LM 0 20 49 := ⟨15, rfl⟩
theorem la_X9_21 : jm_arr jm_LM 0 21 49 := ⟨16, rfl⟩
theorem la_X9_22 : jm_arr jm_LM 0 22 147 := ⟨17, rfl⟩
theorem la_X9_23 : jm_arr jm_LM 0 23 49 := ⟨18, rfl⟩
theorem la_X9_24 : jm_arr jm_LM 0 24 49 := ⟨19, rfl⟩
theorem la_X9_25 : jm_arr jm_LM 0 25 97 := ⟨20, rfl⟩
theorem la_X9_26 : jm_arr jm_LM 0 26 97 := ⟨21, rfl⟩
theorem la_X9_32 : jm_arr jm_LM 0 32 1500 := ⟨22, rfl⟩
theorem la_X9_38 : jm_arr jm_LM 0 38 36 := ⟨23, rfl⟩
theorem la_X9_39 : jm_arr jm_LM 0 39 64 := ⟨24, rfl⟩
theorem la_X9_40 : jm_arr jm_LM 0 40 6 := ⟨25, rfl⟩
theorem la_X9_41 : jm_arr jm_LM 0 41 12 := ⟨26, rfl⟩
theorem la_X9_43 : jm_arr jm_LM 0 43 8 := ⟨27, rfl⟩
noncomputable def sJ_bitCount (p1 : Int32) : Option (Int32) :=
  (some (p1 - (((p1.toUInt32 >>> ((1 : Int32).toUInt32 &&& Int32.toUInt32 31)).toInt32) &&& 1431655765))).bind (fun x1 =>
  (some ((x1 &&& 858993459) + (((x1.toUInt32 >>> ((2 : Int32).toUInt32 &&& Int32.toUInt32 31)).toInt32) &&& 858993459))).bind (fun x2 =>
  (some ((x2 + ((x2.toUInt32 >>> ((4 : Int32).toUInt32 &&& Int32.toUInt32 31)).toInt32)) &&& 252645135)).bind (fun x3 =>
  (some (x3 + ((x3.toUInt32 >>> ((8 : Int32).toUInt32 &&& Int32.toUInt32 31)).toInt32))).bind (fun x4 =>
  (some (x4 + ((x4.toUInt32 >>> ((16 : Int32).toUInt32 &&& Int32.toUInt32 31)).toInt32))).bind (fun x5 =>
  (some (x5 &&& 63)))))))
noncomputable def sW_refuse (M : jm_M) (p1 : Int32) : Option (Int32 × jm_M) :=
  (jm_rd 7 (M 0 12) (-p1)).bind (fun v1 =>
  (jm_wa 7 M 0 12 (-p1) (v1 + 1)).bind (fun M2 =>
  (some (p1, M2))))
noncomputable def sS_addLetter (M : jm_M) (p1 : Int32) : Option (Int32 × jm_M) :=
  (if 96 ≤ (M 14 0 1) then
  (some (M 14 0 1, M))
  else
  (jm_wa 96 M 14 1 (M 14 0 1) p1).bind (fun M2 =>
  (jm_wf M2 14 1 ((M2 14 0 1) + 1)).bind (fun M3 =>
  (some (M3 14 0 1, M3)))))
noncomputable def sW_feed (M : jm_M) (p1 : Int32) : Option (Int32 × jm_M) :=
  (if 0 ≤ p1 then
  (if 255 < p1 then
  (sW_refuse M (-6)).bind (fun r3 =>
  (some (r3.1, r3.2)))
  else
  (if (M 14 0 1) < 96 then
  (sS_addLetter M p1).bind (fun r5 =>
  (some (r5.1, r5.2)))
  else
  (sW_refuse M (-6)).bind (fun r6 =>
  (some (r6.1, r6.2)))))
  else
  (sW_refuse M (-4)).bind (fun r7 =>
  (some (r7.1, r7.2))))
noncomputable def sS_here (M : jm_M) : Option (Int32) :=
  (if (M 14 0 2) < 0 then
  (some (-1))
  else
  (if (M 14 0 1) ≤ (M 14 0 2) then
  (some (-1))
  else
  (jm_rd 96 (M 14 1) (M 14 0 2)).bind (fun v3 =>
  (some v3))))
noncomputable def sS_passDigits_L2 (p1 : Int32) (s1 : Int32 × jm_M) : Option ((Int32 × jm_M) ⊕ (jm_M ⊕ (Int32 × jm_M))) :=
  (if p1 ≤ s1.1 then
  (some (.inr (.inl s1.2)))
  else
  (sS_here s1.2).bind (fun r3 =>
  (if r3 < 48 then
  (some (.inr (.inr (0, s1.2))))
  else
  (sS_here s1.2).bind (fun r5 =>
  (if r5 ≤ 57 then
  (jm_wf s1.2 14 2 ((s1.2 14 0 2) + 1)).bind (fun M7 =>
  (some (.inl (s1.1 + 1, M7))))
  else
  (some (.inr (.inr (0, s1.2)))))))))
noncomputable def sS_passDigits (M : jm_M) (p1 : Int32) : Option (Int32 × jm_M) :=
  Option.bind (jm_loop (sS_passDigits_L2 p1) jm_N (0, M)) (Sum.elim (fun e8 =>
  (some (1, e8))) some)
noncomputable def sS_isTitleLetter (p1 : Int32) : Option (Int32) :=
  (if p1 < 97 then
  (some 0)
  else
  (if 122 < p1 then
  (some 0)
  else
  (some 1)))
noncomputable def sS_passTitle_L13  (s4 : jm_M) : Option ((jm_M) ⊕ (jm_M)) :=
  (if (s4 14 0 1) ≤ (s4 14 0 2) then
  (some (.inr s4))
  else
  (sS_here s4).bind (fun r6 =>
  (sS_isTitleLetter r6).bind (fun r7 =>
  (if r7 = 0 then
  (some (.inr s4))
  else
  (jm_wf s4 14 2 ((s4 14 0 2) + 1)).bind (fun M9 =>
  (some (.inl M9)))))))
noncomputable def sS_passTitle (M : jm_M) : Option (Int32 × jm_M) :=
  (sS_here M).bind (fun r1 =>
  (sS_isTitleLetter r1).bind (fun r2 =>
  (if r2 = 0 then
  (some (0, M))
  else
  Option.bind (jm_loop (sS_passTitle_L13) jm_N M) (fun e10 =>
  (some (1, e10))))))
noncomputable def sS_stepHere_L2 (M : jm_M) (s1 : Int32) : Option ((Int32) ⊕ (Unit ⊕ (Int32))) :=
  (if 8 ≤ s1 then
  (some (.inr (.inl ())))
  else
  (jm_rd 8 jm_SL s1).bind (fun v3 =>
  (sS_here M).bind (fun r4 =>
  (if v3 = r4 then
  (some (.inr (.inr s1)))
  else
  (some (.inl (s1 + 1)))))))
noncomputable def sS_stepHere (M : jm_M) : Option (Int32) :=
  Option.bind (jm_loop (sS_stepHere_L2 M) jm_N 0) (Sum.elim (fun e6 =>
  (some (-9))) some)
noncomputable def sS_passSteps_L2  (s1 : Int32 × jm_M) : Option ((Int32 × jm_M) ⊕ (jm_M ⊕ (Int32 × jm_M))) :=
  (if 96 ≤ s1.1 then
  (some (.inr (.inl s1.2)))
  else
  (sS_here s1.2).bind (fun r3 =>
  (if r3 = 59 then
  (some (.inr (.inl s1.2)))
  else
  (sS_stepHere s1.2).bind (fun r5 =>
  (if r5 = (-9) then
  (some (.inr (.inr (0, s1.2))))
  else
  (jm_wf s1.2 14 2 ((s1.2 14 0 2) + 1)).bind (fun M7 =>
  (if 4 ≤ r5 then
  (some (.inl (s1.1 + 1, M7)))
  else
  (sS_passDigits M7 2).bind (fun r9 =>
  (if r9.1 = 0 then
  (some (.inr (.inr (0, r9.2))))
  else
  (some (.inl (s1.1 + 1, r9.2))))))))))))
noncomputable def sS_passSteps (M : jm_M) : Option (Int32 × jm_M) :=
  Option.bind (jm_loop (sS_passSteps_L2) jm_N (0, M)) (Sum.elim (fun e11 =>
  (some (1, e11))) some)
noncomputable def sS_passBody (M : jm_M) (p1 : Int32) : Option (Int32 × jm_M) :=
  (if p1 = 98 then
  (sS_passDigits M 3).bind (fun r2 =>
  (if r2.1 = 0 then
  (some (0, r2.2))
  else
  (sS_passTitle r2.2).bind (fun r4 =>
  (if r4.1 = 0 then
  (some (0, r4.2))
  else
  (some (1, r4.2))))))
  else
  (if p1 = 108 then
  (sS_passSteps M).bind (fun r7 =>
  (jm_bz r7.1).bind (fun x8 => some (x8, r7.2)))
  else
  (if p1 = 112 then
  (sS_passDigits M 5).bind (fun r11 =>
  (jm_bz r11.1).bind (fun x12 => some (x12, r11.2)))
  else
  (if p1 = 119 then
  (sS_passDigits M 2).bind (fun r15 =>
  (jm_bz r15.1).bind (fun x16 => some (x16, r15.2)))
  else
  (sS_passDigits M 1).bind (fun r18 =>
  (if r18.1 = 0 then
  (some (0, r18.2))
  else
  (sS_passTitle r18.2).bind (fun r20 =>
  (if r20.1 = 0 then
  (some (0, r20.2))
  else
  (some (1, r20.2))))))))))
noncomputable def sS_passLetter (M : jm_M) (p1 : Int32) : Option (Int32 × jm_M) :=
  (sS_here M).bind (fun r1 =>
  (if r1 = p1 then
  (jm_wf M 14 2 ((M 14 0 2) + 1)).bind (fun M3 =>
  (some (1, M3)))
  else
  (some (0, M))))
noncomputable def sS_passStatement (M : jm_M) : Option (Int32 × jm_M) :=
  (sS_here M).bind (fun r1 =>
  (if r1 = 112 then
  (jm_wf M 14 2 ((M 14 0 2) + 1)).bind (fun M3 =>
  (sS_passBody M3 r1).bind (fun r4 =>
  (if r4.1 = 0 then
  (some (0, r4.2))
  else
  (sS_passLetter r4.2 59).bind (fun r6 =>
  (if r6.1 = 0 then
  (some (0, r6.2))
  else
  (some (1, r6.2)))))))
  else
  (if r1 = 98 then
  (jm_wf M 14 2 ((M 14 0 2) + 1)).bind (fun M9 =>
  (sS_passBody M9 r1).bind (fun r10 =>
  (if r10.1 = 0 then
  (some (0, r10.2))
  else
  (sS_passLetter r10.2 59).bind (fun r12 =>
  (if r12.1 = 0 then
  (some (0, r12.2))
  else
  (some (1, r12.2)))))))
  else
  (if r1 = 114 then
  (jm_wf M 14 2 ((M 14 0 2) + 1)).bind (fun M15 =>
  (sS_passBody M15 r1).bind (fun r16 =>
  (if r16.1 = 0 then
  (some (0, r16.2))
  else
  (sS_passLetter r16.2 59).bind (fun r18 =>
  (if r18.1 = 0 then
  (some (0, r18.2))
  else
  (some (1, r18.2)))))))
  else
  (if r1 = 104 then
  (jm_wf M 14 2 ((M 14 0 2) + 1)).bind (fun M21 =>
  (sS_passBody M21 r1).bind (fun r22 =>
  (if r22.1 = 0 then
  (some (0, r22.2))
  else
  (sS_passLetter r22.2 59).bind (fun r24 =>
  (if r24.1 = 0 then
  (some (0, r24.2))
  else
  (some (1, r24.2)))))))
  else
  (if r1 = 108 then
  (jm_wf M 14 2 ((M 14 0 2) + 1)).bind (fun M27 =>
  (sS_passBody M27 r1).bind (fun r28 =>
  (if r28.1 = 0 then
  (some (0, r28.2))
  else
  (sS_passLetter r28.2 59).bind (fun r30 =>
  (if r30.1 = 0 then
  (some (0, r30.2))
  else
  (some (1, r30.2)))))))
  else
  (if r1 = 119 then
  (jm_wf M 14 2 ((M 14 0 2) + 1)).bind (fun M33 =>
  (sS_passBody M33 r1).bind (fun r34 =>
  (if r34.1 = 0 then
  (some (0, r34.2))
  else
  (sS_passLetter r34.2 59).bind (fun r36 =>
  (if r36.1 = 0 then
  (some (0, r36.2))
  else
  (some (1, r36.2)))))))
  else
  (some (0, M)))))))))
noncomputable def sS_canBeRead_L12  (s3 : Int32 × Int32 × jm_M) : Option ((Int32 × Int32 × jm_M) ⊕ (Int32 × jm_M)) :=
  (if 96 ≤ s3.2.1 then
  (some (.inr (s3.1, s3.2.2)))
  else
  (if s3.1 = 0 then
  (some (.inr (s3.1, s3.2.2)))
  else
  (if (s3.2.2 14 0 1) ≤ (s3.2.2 14 0 2) then
  (some (.inr (s3.1, s3.2.2)))
  else
  (sS_passStatement s3.2.2).bind (fun r7 =>
  (some (.inl (r7.1, s3.2.1 + 1, r7.2)))))))
noncomputable def sS_canBeRead (M : jm_M) : Option (Int32 × jm_M) :=
  (jm_wf M 14 2 0).bind (fun M1 =>
  (sS_passStatement M1).bind (fun r2 =>
  Option.bind (jm_loop (sS_canBeRead_L12) jm_N (r2.1, 0, r2.2)) (fun e8 =>
  (jm_bz e8.1).bind (fun x9 => some (x9, e8.2)))))
noncomputable def sT_copyFrom (M : jm_M) (t : Nat) (p1 : Nat) : Option (jm_M) :=
  (jm_wf M t 0 (M p1 0 0)).bind (fun M1 =>
  (jm_wc M1 p1 2 t 2 6).bind (fun M2 =>
  (jm_wc M2 p1 3 t 3 6).bind (fun M3 =>
  (jm_wc M3 p1 4 t 4 6).bind (fun M4 =>
  (jm_wf M4 t 4 (M4 p1 0 4)).bind (fun M5 =>
  (jm_wc M5 p1 6 t 6 10).bind (fun M6 =>
  (jm_wc M6 p1 7 t 7 10).bind (fun M7 =>
  (jm_wc M7 p1 8 t 8 10).bind (fun M8 =>
  (jm_wc M8 p1 9 t 9 10).bind (fun M9 =>
  (jm_wc M9 p1 10 t 10 10).bind (fun M10 =>
  (jm_wc M10 p1 11 t 11 10).bind (fun M11 =>
  (jm_wf M11 t 11 (M11 p1 0 11)).bind (fun M12 =>
  (jm_wf M12 t 12 (M12 p1 0 12)).bind (fun M13 =>
  (jm_wc M13 p1 14 t 14 6).bind (fun M14 =>
  (jm_wc M14 p1 15 t 15 6).bind (fun M15 =>
  (some M15))))))))))))))))
noncomputable def sS_takeNumber_L4 (p1 : Int32) (s1 : Int32 × Int32 × jm_M) : Option ((Int32 × Int32 × jm_M) ⊕ (Int32 × jm_M)) :=
  (if p1 ≤ s1.2.1 then
  (some (.inr (s1.1, s1.2.2)))
  else
  (sS_here s1.2.2).bind (fun r3 =>
  (some (((10 * s1.1) + r3) - 48)).bind (fun x4 =>
  (jm_wf s1.2.2 14 2 ((s1.2.2 14 0 2) + 1)).bind (fun M5 =>
  (some (.inl (x4, s1.2.1 + 1, M5)))))))
noncomputable def sS_takeNumber (M : jm_M) (p1 : Int32) : Option (Int32 × jm_M) :=
  Option.bind (jm_loop (sS_takeNumber_L4 p1) jm_N (0, 0, M)) (fun e6 =>
  (some (e6.1, e6.2)))
noncomputable def sT_addPerson (M : jm_M) (t : Nat) (p1 : Int32) (p2 : Int32) (p3 : Int32) : Option (Int32 × jm_M) :=
  (some (M t 0 0)).bind (fun x1 =>
  (if 6 ≤ x1 then
  (some (x1, M))
  else
  (jm_wa 6 M t 2 x1 p1).bind (fun M3 =>
  (jm_wa 6 M3 t 3 x1 p2).bind (fun M4 =>
  (jm_wa 6 M4 t 4 x1 p3).bind (fun M5 =>
  (jm_wf M5 t 0 ((M5 t 0 0) + 1)).bind (fun M6 =>
  (some (x1, M6))))))))
noncomputable def sS_takePerson (M : jm_M) : Option (Int32 × jm_M) :=
  (sS_takeNumber M 2).bind (fun r1 =>
  (sS_takeNumber r1.2 1).bind (fun r2 =>
  (sS_takeNumber r2.2 2).bind (fun r3 =>
  (if (r3.2 3 0 0) < 6 then
  (sT_addPerson r3.2 3 r1.1 r2.1 r3.1).bind (fun r5 =>
  (some (1, r5.2)))
  else
  (some (0, r3.2))))))
noncomputable def sI_longer_L9  (s3 : Int32 × Int32) : Option ((Int32 × Int32) ⊕ (Int32)) :=
  (if 4 ≤ s3.2 then
  (some (.inr s3.1))
  else
  (some (s3.1 * 27)).bind (fun x5 =>
  (some (.inl (x5, s3.2 + 1)))))
noncomputable def sI_longer (p1 : Int32) (p2 : Int32) (p3 : Int32) : Option (Int32) :=
  (some (p3 + 1)).bind (fun x1 =>
  (some (p2 + 1)).bind (fun x2 =>
  Option.bind (jm_loop (sI_longer_L9) jm_N (x1, x2)) (fun e6 =>
  (some (p1 + e6)))))
noncomputable def sS_takeTitle_L4  (s1 : Int32 × Int32 × jm_M) : Option ((Int32 × Int32 × jm_M) ⊕ (Int32 × Int32 × jm_M)) :=
  (if (s1.2.2 14 0 1) ≤ (s1.2.2 14 0 2) then
  (some (.inr (s1.1, s1.2.1, s1.2.2)))
  else
  (sS_here s1.2.2).bind (fun r3 =>
  (sS_isTitleLetter r3).bind (fun r4 =>
  (if r4 = 0 then
  (some (.inr (s1.1, s1.2.1, s1.2.2)))
  else
  Option.bind (α := Int32) ((if 4 ≤ s1.2.1 then
  (some s1.1)
  else
  (sS_here s1.2.2).bind (fun r8 =>
  (sI_longer s1.1 s1.2.1 (r8 - 97)).bind (fun r9 =>
  (some r9))))) (fun e6 =>
  (jm_wf s1.2.2 14 2 ((s1.2.2 14 0 2) + 1)).bind (fun M10 =>
  (some (.inl (e6, s1.2.1 + 1, M10)))))))))
noncomputable def sS_takeTitle (M : jm_M) : Option (Int32 × jm_M) :=
  Option.bind (jm_loop (sS_takeTitle_L4) jm_N (0, 0, M)) (fun e11 =>
  (if 4 < e11.2.1 then
  (some ((-1), e11.2.2))
  else
  (some (e11.1, e11.2.2))))
noncomputable def sT_hasPerson (M : jm_M) (t : Nat) (p1 : Int32) : Option (Int32) :=
  (if p1 < 0 then
  (some 0)
  else
  (if (M t 0 0) ≤ p1 then
  (some 0)
  else
  (some 1)))
noncomputable def sT_hasKeeper (M : jm_M) (t : Nat) (p1 : Int32) : Option (Int32) :=
  (if p1 = 9 then
  (some 1)
  else
  (sT_hasPerson M t p1).bind (fun r2 =>
  (if r2 = 0 then
  (some 0)
  else
  (some 1))))
noncomputable def sT_bookWithTitle_L2 (M : jm_M) (t : Nat) (p1 : Int32) (s1 : Int32) : Option ((Int32) ⊕ (Unit ⊕ (Int32))) :=
  (if (M t 0 4) ≤ s1 then
  (some (.inr (.inl ())))
  else
  (jm_rd 10 (M t 11) s1).bind (fun v3 =>
  (if v3 = p1 then
  (some (.inr (.inr s1)))
  else
  (some (.inl (s1 + 1))))))
noncomputable def sT_bookWithTitle (M : jm_M) (t : Nat) (p1 : Int32) : Option (Int32) :=
  Option.bind (jm_loop (sT_bookWithTitle_L2 M t p1) jm_N 0) (Sum.elim (fun e5 =>
  (some (-9))) some)
noncomputable def sT_addBook (M : jm_M) (t : Nat) (p1 : Int32) (p2 : Int32) (p3 : Int32) (p4 : Int32) : Option (Int32 × jm_M) :=
  (some (M t 0 4)).bind (fun x1 =>
  (if 10 ≤ x1 then
  (some (x1, M))
  else
  (jm_wa 10 M t 6 x1 p1).bind (fun M3 =>
  (jm_wa 10 M3 t 7 x1 p2).bind (fun M4 =>
  (jm_wa 10 M4 t 8 x1 p3).bind (fun M5 =>
  (jm_wa 10 M5 t 9 x1 p3).bind (fun M6 =>
  (jm_wa 10 M6 t 10 x1 0).bind (fun M7 =>
  (jm_wa 10 M7 t 11 x1 p4).bind (fun M8 =>
  (jm_wf M8 t 4 ((M8 t 0 4) + 1)).bind (fun M9 =>
  (some (x1, M9)))))))))))
noncomputable def sS_takeBook (M : jm_M) : Option (Int32 × jm_M) :=
  (sS_takeNumber M 1).bind (fun r1 =>
  (sS_takeNumber r1.2 1).bind (fun r2 =>
  (sS_takeNumber r2.2 1).bind (fun r3 =>
  (sS_takeTitle r3.2).bind (fun r4 =>
  (if 8 ≤ r1.1 then
  (some (0, r4.2))
  else
  (sT_hasKeeper r4.2 3 r3.1).bind (fun r6 =>
  (if r6 = 0 then
  (some (0, r4.2))
  else
  (if 10 ≤ (r4.2 3 0 4) then
  (some (0, r4.2))
  else
  (if r4.1 = (-1) then
  (some (0, r4.2))
  else
  (sT_bookWithTitle r4.2 3 r4.1).bind (fun r10 =>
  (if r10 = (-9) then
  (sT_addBook r4.2 3 r1.1 r2.1 r3.1 r4.1).bind (fun r12 =>
  (some (1, r12.2)))
  else
  (some (0, r4.2)))))))))))))
noncomputable def sT_hasBook (M : jm_M) (t : Nat) (p1 : Int32) : Option (Int32) :=
  (if p1 < 0 then
  (some 0)
  else
  (if (M t 0 4) ≤ p1 then
  (some 0)
  else
  (some 1)))
noncomputable def sS_takeReading (M : jm_M) : Option (Int32 × jm_M) :=
  (sS_takeNumber M 1).bind (fun r1 =>
  (sS_takeTitle r1.2).bind (fun r2 =>
  (sT_bookWithTitle r2.2 3 r2.1).bind (fun r3 =>
  (sT_hasPerson r2.2 3 r1.1).bind (fun r4 =>
  (if r4 = 0 then
  (some (0, r2.2))
  else
  (sT_hasBook r2.2 3 r3).bind (fun r6 =>
  (if r6 = 0 then
  (some (0, r2.2))
  else
  (jm_rd 10 (r2.2 3 10) r3).bind (fun v8 =>
  (jm_wa 10 r2.2 3 10 r3 (v8 ||| ((1 : Int32) <<< ((r1.1 : Int32) &&& 31)))).bind (fun M9 =>
  (some (1, M9)))))))))))
noncomputable def sS_takeHolder (M : jm_M) : Option (Int32 × jm_M) :=
  (sS_takeNumber M 1).bind (fun r1 =>
  (sS_takeTitle r1.2).bind (fun r2 =>
  (sT_bookWithTitle r2.2 3 r2.1).bind (fun r3 =>
  (sT_hasKeeper r2.2 3 r1.1).bind (fun r4 =>
  (if r4 = 0 then
  (some (0, r2.2))
  else
  (sT_hasBook r2.2 3 r3).bind (fun r6 =>
  (if r6 = 0 then
  (some (0, r2.2))
  else
  (jm_wa 10 r2.2 3 9 r3 r1.1).bind (fun M8 =>
  (some (1, M8))))))))))
noncomputable def sT_addStep (M : jm_M) (t : Nat) (p1 : Int32) (p2 : Int32) : Option (jm_M) :=
  (if 6 ≤ (M t 0 12) then
  (some M)
  else
  (jm_wa 6 M t 14 (M t 0 12) p1).bind (fun M2 =>
  (jm_wa 6 M2 t 15 (M2 t 0 12) p2).bind (fun M3 =>
  (jm_wf M3 t 12 ((M3 t 0 12) + 1)).bind (fun M4 =>
  (some M4)))))
noncomputable def sS_takeLaw_L12  (s2 : Int32 × Int32 × jm_M) : Option ((Int32 × Int32 × jm_M) ⊕ (Int32 × jm_M)) :=
  (if 96 ≤ s2.2.1 then
  (some (.inr (s2.1, s2.2.2)))
  else
  (sS_here s2.2.2).bind (fun r4 =>
  (if r4 = 59 then
  (some (.inr (s2.1, s2.2.2)))
  else
  (sS_stepHere s2.2.2).bind (fun r6 =>
  (jm_wf s2.2.2 14 2 ((s2.2.2 14 0 2) + 1)).bind (fun M7 =>
  Option.bind (α := Int32 × jm_M) ((if 4 ≤ r6 then
  (some (0, M7))
  else
  (sS_takeNumber M7 2).bind (fun r10 =>
  (some (r10.1, r10.2))))) (fun e8 =>
  (sT_addStep e8.2 3 r6 e8.1).bind (fun r11 =>
  (some (.inl (s2.1 + 1, s2.2.1 + 1, r11))))))))))
noncomputable def sS_takeLaw (M : jm_M) : Option (Int32 × jm_M) :=
  (jm_wf M 3 12 0).bind (fun M1 =>
  Option.bind (jm_loop (sS_takeLaw_L12) jm_N (0, 0, M1)) (fun e12 =>
  (if 6 < e12.1 then
  (some (0, e12.2))
  else
  (some (1, e12.2)))))
noncomputable def sT_hasRead (M : jm_M) (t : Nat) (p1 : Int32) (p2 : Int32) : Option (Int32) :=
  (jm_rd 10 (M t 10) p2).bind (fun v1 =>
  (some (((v1 : Int32) >>> ((p1 : Int32) &&& 31)) &&& 1)))
noncomputable def sT_readNext_L5 (M : jm_M) (t : Nat) (p1 : Int32) (s1 : Int32 × Int32) : Option ((Int32 × Int32) ⊕ (Int32)) :=
  (if (M t 0 4) ≤ s1.2 then
  (some (.inr s1.1))
  else
  (jm_rd 10 (M t 9) s1.2).bind (fun v3 =>
  (if v3 = p1 then
  (sT_hasRead M t p1 s1.2).bind (fun r5 =>
  (if r5 = 0 then
  (if s1.1 = (-9) then
  (some (.inl (s1.2, s1.2 + 1)))
  else
  (jm_rd 10 (M t 11) s1.2).bind (fun v8 =>
  (jm_rd 10 (M t 11) s1.1).bind (fun v9 =>
  (if v9 ≤ v8 then
  (some (.inl (s1.1, s1.2 + 1)))
  else
  (some (.inl (s1.2, s1.2 + 1)))))))
  else
  (some (.inl (s1.1, s1.2 + 1)))))
  else
  (some (.inl (s1.1, s1.2 + 1))))))
noncomputable def sT_readNext (M : jm_M) (t : Nat) (p1 : Int32) : Option (jm_M) :=
  Option.bind (jm_loop (sT_readNext_L5 M t p1) jm_N ((-9), 0)) (fun e11 =>
  (if e11 = (-9) then
  (some M)
  else
  (jm_rd 10 (M t 10) e11).bind (fun v13 =>
  (jm_wa 10 M t 10 e11 (v13 ||| ((1 : Int32) <<< ((p1 : Int32) &&& 31)))).bind (fun M14 =>
  (jm_rd 10 (M14 t 8) e11).bind (fun v15 =>
  (jm_wa 10 M14 t 9 e11 v15).bind (fun M16 =>
  (some M16)))))))
noncomputable def sT_weekPasses_L12 (t : Nat) (p1 : Int32) (s2 : Int32 × jm_M) : Option ((Int32 × jm_M) ⊕ (jm_M)) :=
  (if (s2.2 t 0 0) ≤ s2.1 then
  (some (.inr s2.2))
  else
  (jm_rd 6 (s2.2 t 3) s2.1).bind (fun v4 =>
  (some (v4 + 2)).bind (fun x5 =>
  Option.bind (α := jm_M) ((if x5 ≤ 0 then
  (some s2.2)
  else
  (jm_rm (s2.2 t 0 11) x5).bind (fun v8 =>
  (if v8 = 0 then
  (jm_rd 6 (s2.2 t 2) s2.1).bind (fun v10 =>
  (jm_wa 6 s2.2 t 2 s2.1 (jm_min 99 (v10 + 1))).bind (fun M11 =>
  (some M11)))
  else
  (some s2.2))))) (fun e6 =>
  (if p1 = 0 then
  (some (.inl (s2.1 + 1, e6)))
  else
  (sT_readNext e6 t s2.1).bind (fun r13 =>
  (some (.inl (s2.1 + 1, r13)))))))))
noncomputable def sT_weekPasses (M : jm_M) (t : Nat) (p1 : Int32) : Option (jm_M) :=
  (jm_wf M t 11 ((M t 0 11) + 1)).bind (fun M1 =>
  Option.bind (jm_loop (sT_weekPasses_L12 t p1) jm_N (0, M1)) (fun e14 =>
  (some e14)))
noncomputable def sT_weeksPass_L2 (p1 : Int32) (t : Nat) (s1 : Int32 × jm_M) : Option ((Int32 × jm_M) ⊕ (jm_M)) :=
  (if p1 ≤ s1.1 then
  (some (.inr s1.2))
  else
  (sT_weekPasses s1.2 t 1).bind (fun r3 =>
  (some (.inl (s1.1 + 1, r3)))))
noncomputable def sT_weeksPass (M : jm_M) (t : Nat) (p1 : Int32) : Option (jm_M) :=
  Option.bind (jm_loop (sT_weeksPass_L2 p1 t) jm_N (0, M)) (fun e4 =>
  (some e4))
noncomputable def sS_takeWeeks (M : jm_M) : Option (Int32 × jm_M) :=
  (sS_takeNumber M 2).bind (fun r1 =>
  (if r1.1 < 1 then
  (some (0, r1.2))
  else
  (if 60 < r1.1 then
  (some (0, r1.2))
  else
  (if ((r1.2 3 0 11) + r1.1) ≤ 999 then
  (sT_weeksPass r1.2 3 r1.1).bind (fun r5 =>
  (some (1, r5)))
  else
  (some (0, r1.2))))))
noncomputable def sS_takeBody (M : jm_M) (p1 : Int32) : Option (Int32 × jm_M) :=
  (if p1 = 98 then
  (sS_takeBook M).bind (fun r2 =>
  (jm_bz r2.1).bind (fun x3 => some (x3, r2.2)))
  else
  (if p1 = 104 then
  (sS_takeHolder M).bind (fun r6 =>
  (jm_bz r6.1).bind (fun x7 => some (x7, r6.2)))
  else
  (if p1 = 108 then
  (sS_takeLaw M).bind (fun r10 =>
  (jm_bz r10.1).bind (fun x11 => some (x11, r10.2)))
  else
  (if p1 = 112 then
  (sS_takePerson M).bind (fun r14 =>
  (jm_bz r14.1).bind (fun x15 => some (x15, r14.2)))
  else
  (if p1 = 114 then
  (sS_takeReading M).bind (fun r18 =>
  (jm_bz r18.1).bind (fun x19 => some (x19, r18.2)))
  else
  (sS_takeWeeks M).bind (fun r21 =>
  (jm_bz r21.1).bind (fun x22 => some (x22, r21.2))))))))
noncomputable def sS_tellTo_L31  (s5 : Int32 × jm_M) : Option ((Int32 × jm_M) ⊕ ((Int32 × jm_M) ⊕ (Int32 × jm_M))) :=
  (if 96 ≤ s5.1 then
  (some (.inr (.inl (s5.1, s5.2))))
  else
  (if (s5.2 14 0 1) ≤ (s5.2 14 0 2) then
  (some (.inr (.inl (s5.1, s5.2))))
  else
  (some (s5.2 14 0 2)).bind (fun x8 =>
  (sS_here s5.2).bind (fun r9 =>
  (jm_wf s5.2 14 2 ((s5.2 14 0 2) + 1)).bind (fun M10 =>
  (sS_takeBody M10 r9).bind (fun r11 =>
  (if r11.1 = 0 then
  (some (.inr (.inr ((-2000) - x8, r11.2))))
  else
  (jm_wf r11.2 14 2 ((r11.2 14 0 2) + 1)).bind (fun M13 =>
  (some (.inl (s5.1 + 1, M13)))))))))))
noncomputable def sS_tellTo (M : jm_M) (p1 : Nat) : Option (Int32 × jm_M) :=
  (sS_canBeRead M).bind (fun r1 =>
  (if r1.1 = 0 then
  (some ((-1000) - (r1.2 14 0 2), r1.2))
  else
  (sT_copyFrom r1.2 3 p1).bind (fun r3 =>
  (jm_wf r3 14 2 0).bind (fun M4 =>
  Option.bind (jm_loop (sS_tellTo_L31) jm_N (0, M4)) (Sum.elim (fun e14 =>
  (sT_copyFrom e14.2 p1 3).bind (fun r15 =>
  (some (e14.1, r15)))) some)))))
noncomputable def sP_forget (M : jm_M) : Option (jm_M) :=
  (jm_wf M 13 2 0).bind (fun M1 =>
  (some M1))
noncomputable def sW_town (M : jm_M) : Option (Int32 × jm_M) :=
  (sS_tellTo M 1).bind (fun r1 =>
  (jm_wf r1.2 14 1 0).bind (fun M2 =>
  (if r1.1 < 0 then
  (some (r1.1, M2))
  else
  (sP_forget M2).bind (fun r4 =>
  (some (r1.1, r4))))))
noncomputable def sW_comes (M : jm_M) (p1 : Int32) (p2 : Int32) (p3 : Int32) : Option (Int32 × jm_M) :=
  (if p1 < 0 then
  (sW_refuse M (-4)).bind (fun r2 =>
  (some (r2.1, r2.2)))
  else
  (if p2 < 0 then
  (sW_refuse M (-4)).bind (fun r4 =>
  (some (r4.1, r4.2)))
  else
  (if 0 ≤ p3 then
  (if 99 < p1 then
  (sW_refuse M (-6)).bind (fun r7 =>
  (some (r7.1, r7.2)))
  else
  (if 9 < p2 then
  (sW_refuse M (-6)).bind (fun r9 =>
  (some (r9.1, r9.2)))
  else
  (if 99 < p3 then
  (sW_refuse M (-6)).bind (fun r11 =>
  (some (r11.1, r11.2)))
  else
  (if (M 1 0 0) < 6 then
  (sP_forget M).bind (fun r13 =>
  (sT_addPerson r13 1 p1 p2 p3).bind (fun r14 =>
  (some (r14.1, r14.2))))
  else
  (sW_refuse M (-6)).bind (fun r15 =>
  (some (r15.1, r15.2)))))))
  else
  (sW_refuse M (-4)).bind (fun r16 =>
  (some (r16.1, r16.2))))))
noncomputable def sI_ofLetter (p1 : Int32) : Option (Int32) :=
  (sI_longer 0 0 p1).bind (fun r1 =>
  (some r1))
noncomputable def sW_brings (M : jm_M) (p1 : Int32) (p2 : Int32) (p3 : Int32) (p4 : Int32) : Option (Int32 × jm_M) :=
  (if p1 < 0 then
  (sW_refuse M (-2)).bind (fun r2 =>
  (some (r2.1, r2.2)))
  else
  (if p1 < 8 then
  (if p2 < 0 then
  (sW_refuse M (-4)).bind (fun r5 =>
  (some (r5.1, r5.2)))
  else
  (if 0 ≤ p4 then
  (if 9 < p2 then
  (sW_refuse M (-6)).bind (fun r8 =>
  (some (r8.1, r8.2)))
  else
  (if 25 < p4 then
  (sW_refuse M (-6)).bind (fun r10 =>
  (some (r10.1, r10.2)))
  else
  (if (M 1 0 4) < 10 then
  (sT_hasKeeper M 1 p3).bind (fun r12 =>
  (if r12 = 0 then
  (sW_refuse M (-1)).bind (fun r14 =>
  (some (r14.1, r14.2)))
  else
  (sI_ofLetter p4).bind (fun r15 =>
  (sT_bookWithTitle M 1 r15).bind (fun r16 =>
  (if r16 < 0 then
  (sP_forget M).bind (fun r18 =>
  (sT_addBook r18 1 p1 p2 p3 r15).bind (fun r19 =>
  (some (r19.1, r19.2))))
  else
  (sW_refuse M (-3)).bind (fun r20 =>
  (some (r20.1, r20.2))))))))
  else
  (sW_refuse M (-6)).bind (fun r21 =>
  (some (r21.1, r21.2))))))
  else
  (sW_refuse M (-4)).bind (fun r22 =>
  (some (r22.1, r22.2)))))
  else
  (sW_refuse M (-2)).bind (fun r23 =>
  (some (r23.1, r23.2)))))
noncomputable def sT_booksReadBy_L4 (M : jm_M) (t : Nat) (p1 : Int32) (s1 : Int32 × Int32) : Option ((Int32 × Int32) ⊕ (Int32)) :=
  (if (M t 0 4) ≤ s1.2 then
  (some (.inr s1.1))
  else
  (sT_hasRead M t p1 s1.2).bind (fun r3 =>
  (some (s1.1 ||| ((r3 : Int32) <<< ((s1.2 : Int32) &&& 31)))).bind (fun x4 =>
  (some (.inl (x4, s1.2 + 1))))))
noncomputable def sT_booksReadBy (M : jm_M) (t : Nat) (p1 : Int32) : Option (Int32) :=
  Option.bind (jm_loop (sT_booksReadBy_L4 M t p1) jm_N (0, 0)) (fun e5 =>
  (some e5))
noncomputable def sT_readingsOf (M : jm_M) (t : Nat) (p1 : Int32) : Option (Int32) :=
  (sT_booksReadBy M t p1).bind (fun r1 =>
  (sJ_bitCount r1).bind (fun r2 =>
  (some r2)))
noncomputable def sT_booksWith_L5 (M : jm_M) (t : Nat) (p1 : Nat × Nat) (p2 : Int32) (s1 : Int32 × Int32) : Option ((Int32 × Int32) ⊕ (Int32)) :=
  (if (M t 0 4) ≤ s1.2 then
  (some (.inr s1.1))
  else
  (jm_len jm_LC p1).bind (fun N3 =>
  (if (nI N3) ≤ s1.2 then
  (some (.inr s1.1))
  else
  (jm_len jm_LC p1).bind (fun N5 =>
  (jm_rd N5 (M p1.1 p1.2) s1.2).bind (fun v6 =>
  (if v6 = p2 then
  (some (.inl (s1.1 + 1, s1.2 + 1)))
  else
  (some (.inl (s1.1, s1.2 + 1)))))))))
noncomputable def sT_booksWith (M : jm_M) (t : Nat) (p1 : Nat × Nat) (p2 : Int32) : Option (Int32) :=
  Option.bind (jm_loop (sT_booksWith_L5 M t p1 p2) jm_N (0, 0)) (fun e8 =>
  (some e8))
noncomputable def sW_person (M : jm_M) (p1 : Int32) (p2 : Int32) : Option (Int32 × jm_M) :=
  (sT_hasPerson M 1 p1).bind (fun r1 =>
  (if r1 = 0 then
  (sW_refuse M (-1)).bind (fun r3 =>
  (some (r3.1, r3.2)))
  else
  (if p2 = 0 then
  (jm_rd 6 (M 1 2) p1).bind (fun v5 =>
  (some (v5, M)))
  else
  (if p2 = 1 then
  (jm_rd 6 (M 1 3) p1).bind (fun v7 =>
  (some (v7, M)))
  else
  (if p2 = 2 then
  (jm_rd 6 (M 1 4) p1).bind (fun v9 =>
  (some (v9, M)))
  else
  (if p2 = 3 then
  (sT_readingsOf M 1 p1).bind (fun r11 =>
  (some (r11, M)))
  else
  (if p2 = 4 then
  (sT_booksWith M 1 (1, 9) p1).bind (fun r13 =>
  (some (r13, M)))
  else
  (if p2 = 5 then
  (sT_booksWith M 1 (1, 8) p1).bind (fun r15 =>
  (some (r15, M)))
  else
  (sW_refuse M (-2)).bind (fun r16 =>
  (some (r16.1, r16.2)))))))))))
noncomputable def sI_lengthOf_L4  (s1 : Int32 × Int32) : Option ((Int32 × Int32) ⊕ (Int32)) :=
  (if s1.1 ≤ 0 then
  (some (.inr s1.1))
  else
  (jm_rm s1.2 27).bind (fun v3 =>
  (if v3 = 0 then
  (jm_dv s1.2 27).bind (fun v5 =>
  (some (.inl (s1.1 + (-1), v5))))
  else
  (some (.inr s1.1)))))
noncomputable def sI_lengthOf (p1 : Int32) : Option (Int32) :=
  Option.bind (jm_loop (sI_lengthOf_L4) jm_N (4, p1)) (fun e6 =>
  (some e6))
noncomputable def sT_weighs (M : jm_M) (t : Nat) (p1 : Int32) : Option (Int32) :=
  (jm_rd 10 (M t 10) p1).bind (fun v1 =>
  (sJ_bitCount v1).bind (fun r2 =>
  (jm_rd 10 (M t 7) p1).bind (fun v3 =>
  (some (2 * v3)).bind (fun x4 =>
  Option.bind (α := Int32) ((if r2 = 0 then
  (some 0)
  else
  (jm_rd 10 (M t 7) p1).bind (fun v7 =>
  (some (v7 + r2))))) (fun e5 =>
  (some (e5 + 2)).bind (fun x8 =>
  (some (x8 + r2)).bind (fun x9 =>
  Option.bind (α := Int32) ((if r2 = 0 then
  (jm_rd 10 (M t 7) p1).bind (fun v12 =>
  (some (v12 + 5)))
  else
  (some e5))) (fun e10 =>
  (jm_rd 10 (M t 6) p1).bind (fun v13 =>
  (if v13 = 0 then
  (some e5)
  else
  (if v13 = 1 then
  (some x8)
  else
  (if v13 = 2 then
  (some x4)
  else
  (if v13 = 3 then
  (some e10)
  else
  (if v13 = 4 then
  (some x9)
  else
  (if v13 = 5 then
  (jm_dv x4 2).bind (fun v20 =>
  (jm_rd 10 (M t 11) p1).bind (fun v21 =>
  (sI_lengthOf v21).bind (fun r22 =>
  (some (v20 + r22)))))
  else
  (if v13 = 6 then
  (jm_rm (M t 0 11) 2).bind (fun v24 =>
  (if v24 = 1 then
  (some (e10 + 3))
  else
  (some (e10 + 0))))
  else
  (some (jm_max 10 x9))))))))))))))))))
noncomputable def sT_priceOf (M : jm_M) (t : Nat) (p1 : Int32) : Option (Int32) :=
  (jm_rd 10 (M t 7) p1).bind (fun v1 =>
  (some (v1 + 1)).bind (fun x2 =>
  (some (3 * x2)).bind (fun x3 =>
  (jm_rd 10 (M t 6) p1).bind (fun v4 =>
  (if v4 = 0 then
  (some x2)
  else
  (if v4 = 1 then
  (some 2)
  else
  (if v4 = 2 then
  (some x3)
  else
  (if v4 = 3 then
  (some 1)
  else
  (if v4 = 4 then
  (jm_rd 10 (M t 7) p1).bind (fun v10 =>
  (some (2 + v10)))
  else
  (if v4 = 5 then
  (some (jm_max 0 (x3 - 5)))
  else
  (if v4 = 6 then
  (some (1 + 4))
  else
  (some 0))))))))))))
noncomputable def sW_book (M : jm_M) (p1 : Int32) (p2 : Int32) : Option (Int32 × jm_M) :=
  (sT_hasBook M 1 p1).bind (fun r1 =>
  (if r1 = 0 then
  (sW_refuse M (-1)).bind (fun r3 =>
  (some (r3.1, r3.2)))
  else
  (if p2 = 0 then
  (jm_rd 10 (M 1 6) p1).bind (fun v5 =>
  (some (v5, M)))
  else
  (if p2 = 1 then
  (jm_rd 10 (M 1 7) p1).bind (fun v7 =>
  (some (v7, M)))
  else
  (if p2 = 2 then
  (jm_rd 10 (M 1 8) p1).bind (fun v9 =>
  (some (v9, M)))
  else
  (if p2 = 3 then
  (jm_rd 10 (M 1 9) p1).bind (fun v11 =>
  (some (v11, M)))
  else
  (if p2 = 4 then
  (jm_rd 10 (M 1 10) p1).bind (fun v13 =>
  (some (v13, M)))
  else
  (if p2 = 5 then
  (sT_weighs M 1 p1).bind (fun r15 =>
  (some (r15, M)))
  else
  (if p2 = 6 then
  (sT_priceOf M 1 p1).bind (fun r17 =>
  (some (r17, M)))
  else
  (if p2 = 7 then
  (jm_rd 10 (M 1 11) p1).bind (fun v19 =>
  (sI_lengthOf v19).bind (fun r20 =>
  (some (r20, M))))
  else
  (sW_refuse M (-2)).bind (fun r21 =>
  (some (r21.1, r21.2)))))))))))))
noncomputable def sI_letterAt_L6  (s2 : Int32 × Int32) : Option ((Int32 × Int32) ⊕ (Int32)) :=
  (if 4 ≤ s2.2 then
  (some (.inr s2.1))
  else
  (jm_dv s2.1 27).bind (fun v4 =>
  (some (.inl (v4, s2.2 + 1)))))
noncomputable def sI_letterAt (p1 : Int32) (p2 : Int32) : Option (Int32) :=
  (some (p2 + 1)).bind (fun x1 =>
  Option.bind (jm_loop (sI_letterAt_L6) jm_N (p1, x1)) (fun e5 =>
  (jm_rm e5 27).bind (fun v6 =>
  (some (v6 - 1)))))
noncomputable def sW_title (M : jm_M) (p1 : Int32) (p2 : Int32) : Option (Int32 × jm_M) :=
  (sT_hasBook M 1 p1).bind (fun r1 =>
  (if r1 = 0 then
  (sW_refuse M (-1)).bind (fun r3 =>
  (some (r3.1, r3.2)))
  else
  (if 0 ≤ p2 then
  (jm_rd 10 (M 1 11) p1).bind (fun v5 =>
  (sI_lengthOf v5).bind (fun r6 =>
  (if p2 < r6 then
  (jm_rd 10 (M 1 11) p1).bind (fun v8 =>
  (sI_letterAt v8 p2).bind (fun r9 =>
  (some (r9, M))))
  else
  (some ((-9), M)))))
  else
  (sW_refuse M (-4)).bind (fun r10 =>
  (some (r10.1, r10.2))))))
noncomputable def sP_keep (M : jm_M) (p1 : Nat) : Option (jm_M) :=
  (jm_rm ((M 13 0 1) + 1) 8).bind (fun v1 =>
  (jm_wf M 13 1 v1).bind (fun M2 =>
  (jm_wf M2 13 2 (jm_min 8 ((M2 13 0 2) + 1))).bind (fun M3 =>
  (jm_ix 8 (M3 13 0 1)).bind (fun k4 =>
  (sT_copyFrom M3 (5 + k4) p1).bind (fun r5 =>
  (some r5))))))
noncomputable def sW_eats (M : jm_M) (p1 : Int32) (p2 : Int32) : Option (Int32 × jm_M) :=
  (sT_hasPerson M 1 p1).bind (fun r1 =>
  (if r1 = 0 then
  (sW_refuse M (-1)).bind (fun r3 =>
  (some (r3.1, r3.2)))
  else
  (if 0 ≤ p2 then
  (if p2 ≤ 99 then
  (sP_keep M 1).bind (fun r6 =>
  (jm_rd 6 (r6 1 2) p1).bind (fun v7 =>
  (jm_wa 6 r6 1 2 p1 p2).bind (fun M8 =>
  (some (v7, M8)))))
  else
  (sW_refuse M (-6)).bind (fun r9 =>
  (some (r9.1, r9.2))))
  else
  (sW_refuse M (-4)).bind (fun r10 =>
  (some (r10.1, r10.2))))))
noncomputable def sW_reads (M : jm_M) (p1 : Int32) (p2 : Int32) : Option (Int32 × jm_M) :=
  (sT_hasPerson M 1 p1).bind (fun r1 =>
  (if r1 = 0 then
  (sW_refuse M (-1)).bind (fun r3 =>
  (some (r3.1, r3.2)))
  else
  (sT_hasBook M 1 p2).bind (fun r4 =>
  (if r4 = 0 then
  (sW_refuse M (-1)).bind (fun r6 =>
  (some (r6.1, r6.2)))
  else
  (sP_keep M 1).bind (fun r7 =>
  (sT_hasRead r7 1 p1 p2).bind (fun r8 =>
  (some (1 - r8)).bind (fun x9 =>
  (jm_rd 10 (r7 1 10) p2).bind (fun v10 =>
  (jm_wa 10 r7 1 10 p2 (v10 ||| ((1 : Int32) <<< ((p1 : Int32) &&& 31)))).bind (fun M11 =>
  (some (x9, M11)))))))))))
noncomputable def sW_lends (M : jm_M) (p1 : Int32) (p2 : Int32) : Option (Int32 × jm_M) :=
  (sT_hasBook M 1 p1).bind (fun r1 =>
  (if r1 = 0 then
  (sW_refuse M (-1)).bind (fun r3 =>
  (some (r3.1, r3.2)))
  else
  (sT_hasKeeper M 1 p2).bind (fun r4 =>
  (if r4 = 0 then
  (sW_refuse M (-1)).bind (fun r6 =>
  (some (r6.1, r6.2)))
  else
  (sP_keep M 1).bind (fun r7 =>
  (jm_rd 10 (r7 1 9) p1).bind (fun v8 =>
  (jm_wa 10 r7 1 9 p1 p2).bind (fun M9 =>
  (some (v8, M9)))))))))
noncomputable def sW_buys (M : jm_M) (p1 : Int32) (p2 : Int32) : Option (Int32 × jm_M) :=
  (sT_hasPerson M 1 p1).bind (fun r1 =>
  (if r1 = 0 then
  (sW_refuse M (-1)).bind (fun r3 =>
  (some (r3.1, r3.2)))
  else
  (sT_hasBook M 1 p2).bind (fun r4 =>
  (if r4 = 0 then
  (sW_refuse M (-1)).bind (fun r6 =>
  (some (r6.1, r6.2)))
  else
  (sT_priceOf M 1 p2).bind (fun r7 =>
  (jm_rd 10 (M 1 8) p2).bind (fun v8 =>
  (if v8 = 9 then
  (jm_rd 6 (M 1 4) p1).bind (fun v10 =>
  (if r7 ≤ v10 then
  (sP_keep M 1).bind (fun r12 =>
  (jm_wa 10 r12 1 8 p2 p1).bind (fun M13 =>
  (jm_wa 10 M13 1 9 p2 p1).bind (fun M14 =>
  (jm_rd 6 (M14 1 4) p1).bind (fun v15 =>
  (jm_wa 6 M14 1 4 p1 (v15 - r7)).bind (fun M16 =>
  (jm_rd 6 (M16 1 4) p1).bind (fun v17 =>
  (some (v17, M16))))))))
  else
  (sW_refuse M (-3)).bind (fun r18 =>
  (some (r18.1, r18.2)))))
  else
  (sW_refuse M (-3)).bind (fun r19 =>
  (some (r19.1, r19.2))))))))))
noncomputable def sW_step (M : jm_M) (p1 : Int32) (p2 : Int32) : Option (Int32 × jm_M) :=
  (if p1 < 0 then
  (sW_refuse M (-2)).bind (fun r2 =>
  (some (r2.1, r2.2)))
  else
  (if p1 < 8 then
  (if 0 ≤ p2 then
  (if 99 < p2 then
  (sW_refuse M (-6)).bind (fun r6 =>
  (some (r6.1, r6.2)))
  else
  (if (M 1 0 12) < 6 then
  (sP_keep M 1).bind (fun r8 =>
  (sT_addStep r8 1 p1 p2).bind (fun r9 =>
  (some (r9 1 0 12, r9))))
  else
  (sW_refuse M (-6)).bind (fun r10 =>
  (some (r10.1, r10.2)))))
  else
  (sW_refuse M (-4)).bind (fun r11 =>
  (some (r11.1, r11.2))))
  else
  (sW_refuse M (-2)).bind (fun r12 =>
  (some (r12.1, r12.2)))))
noncomputable def sW_clearLaw (M : jm_M) : Option (Int32 × jm_M) :=
  (sP_keep M 1).bind (fun r1 =>
  (some (r1 1 0 12)).bind (fun x2 =>
  (jm_wf r1 1 12 0).bind (fun M3 =>
  (some (x2, M3)))))
noncomputable def sW_weeks (M : jm_M) (p1 : Int32) : Option (Int32 × jm_M) :=
  (if 1 ≤ p1 then
  (if 60 < p1 then
  (sW_refuse M (-6)).bind (fun r3 =>
  (some (r3.1, r3.2)))
  else
  (if ((M 1 0 11) + p1) ≤ 999 then
  (sP_keep M 1).bind (fun r5 =>
  (sT_weeksPass r5 1 p1).bind (fun r6 =>
  (some (r6 1 0 11, r6))))
  else
  (sW_refuse M (-6)).bind (fun r7 =>
  (some (r7.1, r7.2)))))
  else
  (sW_refuse M (-4)).bind (fun r8 =>
  (some (r8.1, r8.2))))
noncomputable def sP_giveBack (M : jm_M) (p1 : Nat) : Option (jm_M) :=
  (jm_ix 8 (M 13 0 1)).bind (fun k1 =>
  (sT_copyFrom M p1 (5 + k1)).bind (fun r2 =>
  (jm_rm (((r2 13 0 1) + 8) - 1) 8).bind (fun v3 =>
  (jm_wf r2 13 1 v3).bind (fun M4 =>
  (jm_wf M4 13 2 ((M4 13 0 2) - 1)).bind (fun M5 =>
  (some M5))))))
noncomputable def sW_back (M : jm_M) : Option (Int32 × jm_M) :=
  (if (M 13 0 2) = 0 then
  (sW_refuse M (-3)).bind (fun r2 =>
  (some (r2.1, r2.2)))
  else
  (sP_giveBack M 1).bind (fun r3 =>
  (some (r3 13 0 2, r3))))
noncomputable def sW_areTwo (M : jm_M) (p1 : Int32) (p2 : Int32) : Option (Int32) :=
  (sT_hasPerson M 1 p1).bind (fun r1 =>
  (if r1 = 0 then
  (some 0)
  else
  (sT_hasPerson M 1 p2).bind (fun r3 =>
  (if r3 = 0 then
  (some 0)
  else
  (if p1 = p2 then
  (some 0)
  else
  (some 1))))))
noncomputable def sT_isOnPan (M : jm_M) (t : Nat) (p1 : Int32) (p2 : Int32) (p3 : Int32) : Option (Int32) :=
  (jm_rd 10 (M t 9) p3).bind (fun v1 =>
  (if v1 = p1 then
  (some 1)
  else
  (jm_rd 10 (M t 9) p3).bind (fun v3 =>
  (if v3 = p2 then
  (some 1)
  else
  (some 0)))))
noncomputable def sT_stepped (M : jm_M) (t : Nat) (p1 : Int32) (p2 : Int32) (p3 : Int32) : Option (Int32) :=
  (jm_rd 6 (M t 15) p2).bind (fun v1 =>
  (jm_rd 6 (M t 14) p2).bind (fun v2 =>
  (if v2 = 0 then
  (some (p1 + v1))
  else
  (if v2 = 1 then
  (some (jm_max 0 (p1 - v1)))
  else
  (if v2 = 2 then
  (some (jm_min p1 v1))
  else
  (if v2 = 3 then
  (if v1 ≤ p1 then
  (some p1)
  else
  (some 0))
  else
  (if v2 = 4 then
  (if p3 = 2 then
  (some (2 * p1))
  else
  (some p1))
  else
  (if v2 = 5 then
  (if p3 = 0 then
  (some 0)
  else
  (some p1))
  else
  (if v2 = 6 then
  (jm_dv p1 2).bind (fun v13 =>
  (some v13))
  else
  (jm_rm (M t 0 11) 2).bind (fun v14 =>
  (some (p1 + v14))))))))))))
noncomputable def sT_comesTo_L25 (M : jm_M) (t : Nat) (x3 : Int32) (s5 : Int32 × Int32) : Option ((Int32 × Int32) ⊕ (Int32)) :=
  (if (M t 0 12) ≤ s5.2 then
  (some (.inr s5.1))
  else
  (sT_stepped M t s5.1 s5.2 x3).bind (fun r7 =>
  (some (.inl (r7, s5.2 + 1)))))
noncomputable def sT_comesTo (M : jm_M) (t : Nat) (p1 : Int32) (p2 : Int32) (p3 : Int32) : Option (Int32) :=
  (sT_hasRead M t p1 p3).bind (fun r1 =>
  (sT_hasRead M t p2 p3).bind (fun r2 =>
  (some (r1 + r2)).bind (fun x3 =>
  (sT_weighs M t p3).bind (fun r4 =>
  Option.bind (jm_loop (sT_comesTo_L25 M t x3) jm_N (r4, 0)) (fun e8 =>
  (some e8))))))
noncomputable def sT_overOf_L18 (M : jm_M) (t : Nat) (p1 : Int32) (p2 : Int32) (s4 : Int32 × Int32) : Option ((Int32 × Int32) ⊕ (Int32)) :=
  (if (M t 0 4) ≤ s4.2 then
  (some (.inr s4.1))
  else
  (sT_isOnPan M t p1 p2 s4.2).bind (fun r6 =>
  (if r6 = 0 then
  (some (.inl (s4.1, s4.2 + 1)))
  else
  (sT_comesTo M t p1 p2 s4.2).bind (fun r8 =>
  (some (s4.1 + r8)).bind (fun x9 =>
  (some (.inl (x9, s4.2 + 1))))))))
noncomputable def sT_overOf (M : jm_M) (t : Nat) (p1 : Int32) (p2 : Int32) : Option (Int32) :=
  (jm_rd 6 (M t 2) p1).bind (fun v1 =>
  (jm_rd 6 (M t 2) p2).bind (fun v2 =>
  (some ((-v1) - v2)).bind (fun x3 =>
  Option.bind (jm_loop (sT_overOf_L18 M t p1 p2) jm_N (x3, 0)) (fun e10 =>
  (some e10)))))
noncomputable def sW_over (M : jm_M) (p1 : Int32) (p2 : Int32) : Option (Int32 × jm_M) :=
  (sW_areTwo M p1 p2).bind (fun r1 =>
  (if r1 = 0 then
  (sW_refuse M (-1)).bind (fun r3 =>
  (some (1000000000 - r3.1, r3.2)))
  else
  (sT_overOf M 1 p1 p2).bind (fun r4 =>
  (some (r4, M)))))
noncomputable def sW_pan (M : jm_M) (p1 : Int32) (p2 : Int32) (p3 : Int32) : Option (Int32 × jm_M) :=
  (sW_areTwo M p1 p2).bind (fun r1 =>
  (if r1 = 0 then
  (sW_refuse M (-1)).bind (fun r3 =>
  (some (r3.1, r3.2)))
  else
  (sT_hasBook M 1 p3).bind (fun r4 =>
  (if r4 = 0 then
  (sW_refuse M (-1)).bind (fun r6 =>
  (some (r6.1, r6.2)))
  else
  (sT_comesTo M 1 p1 p2 p3).bind (fun r7 =>
  (some (r7, M)))))))
noncomputable def sW_isNeither (p1 : Int32) : Option (Int32) :=
  (if p1 = 0 then
  (some 0)
  else
  (if p1 = 1 then
  (some 0)
  else
  (some 1)))
noncomputable def sB_offer_L6 (p1 : Nat) (p2 : Int32) (p3 : Int32) (s1 : Int32 × Int32 × jm_M) : Option ((Int32 × Int32 × jm_M) ⊕ (Int32 × jm_M)) :=
  (if (s1.2.2 p1 0 4) ≤ s1.2.1 then
  (some (.inr (s1.1, s1.2.2)))
  else
  (sT_priceOf s1.2.2 p1 s1.2.1).bind (fun r3 =>
  (jm_wa 10 s1.2.2 16 1 s1.2.1 r3).bind (fun M4 =>
  (sT_comesTo M4 p1 p2 p3 s1.2.1).bind (fun r5 =>
  (jm_wa 10 M4 16 2 s1.2.1 r5).bind (fun M6 =>
  (jm_rd 10 (M6 p1 8) s1.2.1).bind (fun v7 =>
  (if v7 = 9 then
  (sT_isOnPan M6 p1 p2 p3 s1.2.1).bind (fun r9 =>
  (if r9 = 0 then
  (some (s1.1 ||| ((1 : Int32) <<< ((s1.2.1 : Int32) &&& 31)))).bind (fun x11 =>
  (some (.inl (x11, s1.2.1 + 1, M6))))
  else
  (some (.inl (s1.1, s1.2.1 + 1, M6)))))
  else
  (some (.inl (s1.1, s1.2.1 + 1, M6))))))))))
noncomputable def sB_offer (M : jm_M) (p1 : Nat) (p2 : Int32) (p3 : Int32) : Option (Int32 × jm_M) :=
  Option.bind (jm_loop (sB_offer_L6 p1 p2 p3) jm_N (0, 0, M)) (fun e12 =>
  (some (e12.1, e12.2)))
noncomputable def sB_sumOf_L6 (p3 : Int32) (p1 : Nat × Nat) (p2 : Int32) (M : jm_M) (s1 : Int32 × Int32) : Option ((Int32 × Int32) ⊕ (Int32)) :=
  (if p3 ≤ s1.2 then
  (some (.inr s1.1))
  else
  (jm_len jm_LC p1).bind (fun N3 =>
  (if (nI N3) ≤ s1.2 then
  (some (.inr s1.1))
  else
  (if (((p2 : Int32) >>> ((s1.2 : Int32) &&& 31)) &&& 1) = 1 then
  (jm_len jm_LC p1).bind (fun N6 =>
  (jm_rd N6 (M p1.1 p1.2) s1.2).bind (fun v7 =>
  (some (s1.1 + v7)).bind (fun x8 =>
  (some (.inl (x8, s1.2 + 1))))))
  else
  (some (.inl (s1.1, s1.2 + 1)))))))
noncomputable def sB_sumOf (M : jm_M) (p1 : Nat × Nat) (p2 : Int32) (p3 : Int32) : Option (Int32) :=
  Option.bind (jm_loop (sB_sumOf_L6 p3 p1 p2 M) jm_N (0, 0)) (fun e9 =>
  (some e9))
noncomputable def sB_takeIfBetter (M : jm_M) (p1 : Int32) (p2 : Int32) : Option (jm_M) :=
  (if (M 16 0 2) = (-9) then
  (jm_wf M 16 2 p1).bind (fun M2 =>
  (jm_wf M2 16 3 p2).bind (fun M3 =>
  (some M3)))
  else
  (if p2 < (M 16 0 3) then
  (jm_wf M 16 2 p1).bind (fun M5 =>
  (jm_wf M5 16 3 p2).bind (fun M6 =>
  (some M6)))
  else
  (if p2 = (M 16 0 3) then
  (sJ_bitCount p1).bind (fun r8 =>
  (sJ_bitCount (M 16 0 2)).bind (fun r9 =>
  (if r9 ≤ r8 then
  (some M)
  else
  (jm_wf M 16 2 p1).bind (fun M11 =>
  (jm_wf M11 16 3 p2).bind (fun M12 =>
  (some M12))))))
  else
  (some M))))
noncomputable def sB_seek_L33 (p1 : Nat) (r3 : Int32 × jm_M) (x2 : Int32) (s6 : Int32 × jm_M) : Option ((Int32 × jm_M) ⊕ (jm_M)) :=
  (if ((1 : Int32) <<< ((s6.2 p1 0 4 : Int32) &&& 31)) ≤ s6.1 then
  (some (.inr s6.2))
  else
  (if (s6.1 &&& (r3.1 ^^^ (-1))) = 0 then
  (sB_sumOf s6.2 (16, 2) s6.1 (s6.2 p1 0 4)).bind (fun r9 =>
  (if r9 < x2 then
  (some (.inl (s6.1 + 1, s6.2)))
  else
  (sB_sumOf s6.2 (16, 1) s6.1 (s6.2 p1 0 4)).bind (fun r11 =>
  (sB_takeIfBetter s6.2 s6.1 r11).bind (fun r12 =>
  (some (.inl (s6.1 + 1, r12)))))))
  else
  (some (.inl (s6.1 + 1, s6.2)))))
noncomputable def sB_seek (M : jm_M) (p1 : Nat) (p2 : Int32) (p3 : Int32) : Option (jm_M) :=
  (sT_overOf M p1 p2 p3).bind (fun r1 =>
  (some (-r1)).bind (fun x2 =>
  (sB_offer M p1 p2 p3).bind (fun r3 =>
  (jm_wf r3.2 16 2 (-9)).bind (fun M4 =>
  (jm_wf M4 16 3 (-9)).bind (fun M5 =>
  Option.bind (jm_loop (sB_seek_L33 p1 r3 x2) jm_N (0, M5)) (fun e13 =>
  (some e13)))))))
noncomputable def sW_buy (M : jm_M) (p1 : Int32) (p2 : Int32) (p3 : Int32) : Option (Int32 × jm_M) :=
  (sW_areTwo M p1 p2).bind (fun r1 =>
  (if r1 = 0 then
  (sW_refuse M (-1)).bind (fun r3 =>
  (some (r3.1, r3.2)))
  else
  (sW_isNeither p3).bind (fun r4 =>
  (if r4 = 0 then
  (sB_seek M 1 p1 p2).bind (fun r6 =>
  (if p3 = 0 then
  (some (r6 16 0 2, r6))
  else
  (some (r6 16 0 3, r6))))
  else
  (sW_refuse M (-2)).bind (fun r8 =>
  (some (r8.1, r8.2)))))))
noncomputable def sT_comesDown (M : jm_M) (t : Nat) (p1 : Int32) (p2 : Int32) : Option (Int32) :=
  (sT_overOf M t p1 p2).bind (fun r1 =>
  (if r1 < 0 then
  (some 0)
  else
  (some 1)))
noncomputable def sC_weighAll_L21 (p1 : Nat) (s1 : Int32 × jm_M) (s5 : Int32 × jm_M) : Option ((Int32 × jm_M) ⊕ (jm_M)) :=
  (if (s5.2 p1 0 0) ≤ s5.1 then
  (some (.inr s5.2))
  else
  (sT_comesDown s5.2 p1 s1.1 s5.1).bind (fun r7 =>
  (if r7 = 0 then
  (some (.inl (s5.1 + 1, s5.2)))
  else
  (jm_rd 6 (s5.2 17 1) s1.1).bind (fun v9 =>
  (jm_wa 6 s5.2 17 1 s1.1 (v9 ||| ((1 : Int32) <<< ((s5.1 : Int32) &&& 31)))).bind (fun M10 =>
  (some (.inl (s5.1 + 1, M10))))))))
noncomputable def sC_weighAll_L2 (p1 : Nat) (s1 : Int32 × jm_M) : Option ((Int32 × jm_M) ⊕ (jm_M)) :=
  (if (s1.2 p1 0 0) ≤ s1.1 then
  (some (.inr s1.2))
  else
  (jm_wa 6 s1.2 17 1 s1.1 0).bind (fun M3 =>
  (some (s1.1 + 1)).bind (fun x4 =>
  Option.bind (jm_loop (sC_weighAll_L21 p1 s1) jm_N (x4, M3)) (fun e11 =>
  (some (.inl (s1.1 + 1, e11)))))))
noncomputable def sC_weighAll (M : jm_M) (p1 : Nat) : Option (jm_M) :=
  Option.bind (jm_loop (sC_weighAll_L2 p1) jm_N (0, M)) (fun e12 =>
  (some e12))
noncomputable def sC_firstOf_L2 (p2 : Int32) (p1 : Int32) (s1 : Int32) : Option ((Int32) ⊕ (Unit ⊕ (Int32))) :=
  (if p2 ≤ s1 then
  (some (.inr (.inl ())))
  else
  (if (p1 &&& ((1 : Int32) <<< ((s1 : Int32) &&& 31))) = 0 then
  (some (.inl (s1 + 1)))
  else
  (some (.inr (.inr s1)))))
noncomputable def sC_firstOf (p1 : Int32) (p2 : Int32) : Option (Int32) :=
  Option.bind (jm_loop (sC_firstOf_L2 p2 p1) jm_N 0) (Sum.elim (fun e4 =>
  (some 0)) some)
noncomputable def sC_mostAmong_L30 (p2 : Int32) (M : jm_M) (r1 : Int32) (x2 : Int32) (s5 : Int32 × Int32) : Option ((Int32 × Int32) ⊕ (Int32)) :=
  (if p2 ≤ s5.2 then
  (some (.inr s5.1))
  else
  (jm_rd 6 (M 17 1) r1).bind (fun v7 =>
  (if ((x2 &&& v7) &&& ((1 : Int32) <<< ((s5.2 : Int32) &&& 31))) = 0 then
  (some (.inl (s5.1, s5.2 + 1)))
  else
  (jm_rd 64 (M 17 2) (x2 &&& (((1 : Int32) <<< ((s5.2 : Int32) &&& 31)) ^^^ (-1)))).bind (fun v9 =>
  (some (jm_max s5.1 (1 + v9))).bind (fun x10 =>
  (some (.inl (x10, s5.2 + 1))))))))
noncomputable def sC_mostAmong (M : jm_M) (p1 : Int32) (p2 : Int32) : Option (Int32) :=
  (sC_firstOf p1 p2).bind (fun r1 =>
  (some (p1 &&& (((1 : Int32) <<< ((r1 : Int32) &&& 31)) ^^^ (-1)))).bind (fun x2 =>
  (jm_rd 64 (M 17 2) x2).bind (fun v3 =>
  (some (r1 + 1)).bind (fun x4 =>
  Option.bind (jm_loop (sC_mostAmong_L30 p2 M r1 x2) jm_N (v3, x4)) (fun e11 =>
  (some e11))))))
noncomputable def sC_firstPartner_L14 (p3 : Int32) (M : jm_M) (p1 : Int32) (x1 : Int32) (p2 : Int32) (s3 : Int32) : Option ((Int32) ⊕ (Unit ⊕ (Int32))) :=
  (if p3 ≤ s3 then
  (some (.inr (.inl ())))
  else
  (jm_rd 6 (M 17 1) p1).bind (fun v5 =>
  (if ((x1 &&& v5) &&& ((1 : Int32) <<< ((s3 : Int32) &&& 31))) = 0 then
  (some (.inl (s3 + 1)))
  else
  (jm_rd 64 (M 17 2) (x1 &&& (((1 : Int32) <<< ((s3 : Int32) &&& 31)) ^^^ (-1)))).bind (fun v7 =>
  (jm_rd 64 (M 17 2) p2).bind (fun v8 =>
  (if (1 + v7) = v8 then
  (some (.inr (.inr s3)))
  else
  (some (.inl (s3 + 1)))))))))
noncomputable def sC_firstPartner (M : jm_M) (p1 : Int32) (p2 : Int32) (p3 : Int32) : Option (Int32) :=
  (some (p2 &&& (((1 : Int32) <<< ((p1 : Int32) &&& 31)) ^^^ (-1)))).bind (fun x1 =>
  (some (p1 + 1)).bind (fun x2 =>
  Option.bind (jm_loop (sC_firstPartner_L14 p3 M p1 x1 p2) jm_N x2) (Sum.elim (fun e10 =>
  (some (-9))) some)))
noncomputable def sC_pair_L5 (p2 : Int32) (s1 : Int32 × jm_M) : Option ((Int32 × jm_M) ⊕ (jm_M)) :=
  (if p2 ≤ s1.1 then
  (some (.inr s1.2))
  else
  (jm_wa 6 s1.2 17 3 s1.1 (-9)).bind (fun M3 =>
  (some (.inl (s1.1 + 1, M3)))))
noncomputable def sC_pair_L29 (p2 : Int32) (s5 : Int32 × Int32 × jm_M) : Option ((Int32 × Int32 × jm_M) ⊕ (jm_M)) :=
  (if p2 ≤ s5.2.1 then
  (some (.inr s5.2.2))
  else
  (if (s5.1 &&& ((1 : Int32) <<< ((s5.2.1 : Int32) &&& 31))) = 0 then
  (some (.inl (s5.1, s5.2.1 + 1, s5.2.2)))
  else
  (sC_firstPartner s5.2.2 s5.2.1 s5.1 p2).bind (fun r8 =>
  (some (s5.1 &&& (((1 : Int32) <<< ((s5.2.1 : Int32) &&& 31)) ^^^ (-1)))).bind (fun x9 =>
  (if r8 = (-9) then
  (some (.inl (x9, s5.2.1 + 1, s5.2.2)))
  else
  (jm_wa 6 s5.2.2 17 3 s5.2.1 r8).bind (fun M11 =>
  (jm_wa 6 M11 17 3 r8 s5.2.1).bind (fun M12 =>
  (some (x9 &&& (((1 : Int32) <<< ((r8 : Int32) &&& 31)) ^^^ (-1)))).bind (fun x13 =>
  (some (.inl (x13, s5.2.1 + 1, M12)))))))))))
noncomputable def sC_pair (M : jm_M) (p1 : Int32) (p2 : Int32) : Option (jm_M) :=
  Option.bind (jm_loop (sC_pair_L5 p2) jm_N (0, M)) (fun e4 =>
  Option.bind (jm_loop (sC_pair_L29 p2) jm_N (p1, 0, e4)) (fun e14 =>
  (some e14)))
noncomputable def sC_choose_L16 (x2 : Int32) (p1 : Nat) (s3 : Int32 × jm_M) : Option ((Int32 × jm_M) ⊕ (jm_M)) :=
  (if x2 < s3.1 then
  (some (.inr s3.2))
  else
  (sC_mostAmong s3.2 s3.1 (s3.2 p1 0 0)).bind (fun r5 =>
  (jm_wa 64 s3.2 17 2 s3.1 r5).bind (fun M6 =>
  (some (.inl (s3.1 + 1, M6))))))
noncomputable def sC_choose (M : jm_M) (p1 : Nat) : Option (jm_M) :=
  (sC_weighAll M p1).bind (fun r1 =>
  (some (((1 : Int32) <<< ((r1 p1 0 0 : Int32) &&& 31)) - 1)).bind (fun x2 =>
  Option.bind (jm_loop (sC_choose_L16 x2 p1) jm_N (1, r1)) (fun e7 =>
  (jm_rd 64 (e7 17 2) x2).bind (fun v8 =>
  (jm_wf e7 17 3 v8).bind (fun M9 =>
  (sC_pair M9 x2 (M9 p1 0 0)).bind (fun r10 =>
  (some r10)))))))
noncomputable def sW_couples (M : jm_M) (p1 : Int32) : Option (Int32 × jm_M) :=
  (if p1 = (-1) then
  (sC_choose M 1).bind (fun r2 =>
  (if p1 = (-1) then
  (some (r2 17 0 3, r2))
  else
  (jm_rd 6 (r2 17 3) p1).bind (fun v4 =>
  (some (v4, r2)))))
  else
  (sT_hasPerson M 1 p1).bind (fun r5 =>
  (if r5 = 0 then
  (sW_refuse M (-1)).bind (fun r7 =>
  (some (r7.1, r7.2)))
  else
  (sC_choose M 1).bind (fun r8 =>
  (if p1 = (-1) then
  (some (r8 17 0 3, r8))
  else
  (jm_rd 6 (r8 17 3) p1).bind (fun v10 =>
  (some (v10, r8))))))))
noncomputable def sW_isHeavier (M : jm_M) (p1 : Int32) (p2 : Int32) (p3 : Int32) (p4 : Int32) : Option (Int32) :=
  (sT_comesTo M 1 p1 p2 p3).bind (fun r1 =>
  (sT_comesTo M 1 p1 p2 p4).bind (fun r2 =>
  (if r2 < r1 then
  (some 1)
  else
  (if r1 = r2 then
  (jm_rd 10 (M 1 11) p3).bind (fun v5 =>
  (jm_rd 10 (M 1 11) p4).bind (fun v6 =>
  (if v6 ≤ v5 then
  (some 0)
  else
  (some 1))))
  else
  (some 0)))))
noncomputable def sW_orderPan_L34 (p1 : Int32) (p2 : Int32) (s1 : Int32 × Int32 × jm_M) (s5 : Int32 × jm_M) : Option ((Int32 × jm_M) ⊕ (Int32 × jm_M)) :=
  (if s5.1 ≤ 0 then
  (some (.inr (s5.1, s5.2)))
  else
  (jm_rd 10 (s5.2 0 9) (s5.1 - 1)).bind (fun v7 =>
  (sW_isHeavier s5.2 p1 p2 s1.2.1 v7).bind (fun r8 =>
  (if r8 = 0 then
  (some (.inr (s5.1, s5.2)))
  else
  (jm_rd 10 (s5.2 0 9) (s5.1 - 1)).bind (fun v10 =>
  (jm_wa 10 s5.2 0 9 s5.1 v10).bind (fun M11 =>
  (some (.inl (s5.1 + (-1), M11)))))))))
noncomputable def sW_orderPan_L5 (p1 : Int32) (p2 : Int32) (s1 : Int32 × Int32 × jm_M) : Option ((Int32 × Int32 × jm_M) ⊕ (Int32 × jm_M)) :=
  (if (s1.2.2 1 0 4) ≤ s1.2.1 then
  (some (.inr (s1.1, s1.2.2)))
  else
  (sT_isOnPan s1.2.2 1 p1 p2 s1.2.1).bind (fun r3 =>
  (if r3 = 0 then
  (some (.inl (s1.1, s1.2.1 + 1, s1.2.2)))
  else
  Option.bind (jm_loop (sW_orderPan_L34 p1 p2 s1) jm_N (s1.1, s1.2.2)) (fun e12 =>
  (jm_wa 10 e12.2 0 9 e12.1 s1.2.1).bind (fun M13 =>
  (some (.inl (s1.1 + 1, s1.2.1 + 1, M13))))))))
noncomputable def sW_orderPan (M : jm_M) (p1 : Int32) (p2 : Int32) : Option (Int32 × jm_M) :=
  Option.bind (jm_loop (sW_orderPan_L5 p1 p2) jm_N (0, 0, M)) (fun e14 =>
  (some (e14.1, e14.2)))
noncomputable def sW_heaviest (M : jm_M) (p1 : Int32) (p2 : Int32) (p3 : Int32) : Option (Int32 × jm_M) :=
  (sW_areTwo M p1 p2).bind (fun r1 =>
  (if r1 = 0 then
  (sW_refuse M (-1)).bind (fun r3 =>
  (some (r3.1, r3.2)))
  else
  (if 0 ≤ p3 then
  (sW_orderPan M p1 p2).bind (fun r5 =>
  (if r5.1 ≤ p3 then
  (some ((-9), r5.2))
  else
  (jm_rd 10 (r5.2 0 9) p3).bind (fun v7 =>
  (some (v7, r5.2)))))
  else
  (sW_refuse M (-4)).bind (fun r8 =>
  (some (r8.1, r8.2))))))
noncomputable def sF_think (M : jm_M) (p1 : Nat) : Option (jm_M) :=
  (sT_copyFrom M 4 p1).bind (fun r1 =>
  (some r1))
noncomputable def sF_after (M : jm_M) (p1 : Nat) (p2 : Int32) : Option (jm_M) :=
  (sF_think M p1).bind (fun r1 =>
  (sT_weeksPass r1 4 p2).bind (fun r2 =>
  (some r2)))
noncomputable def sW_overThen (M : jm_M) (p1 : Int32) (p2 : Int32) (p3 : Int32) : Option (Int32 × jm_M) :=
  (sW_areTwo M p1 p2).bind (fun r1 =>
  (if r1 = 0 then
  (sW_refuse M (-1)).bind (fun r3 =>
  (some (1000000000 - r3.1, r3.2)))
  else
  (if 0 ≤ p3 then
  (if p3 ≤ 60 then
  (sF_after M 1 p3).bind (fun r6 =>
  (sT_overOf r6 4 p1 p2).bind (fun r7 =>
  (some (r7, r6))))
  else
  (sW_refuse M (-6)).bind (fun r8 =>
  (some (1000000000 - r8.1, r8.2))))
  else
  (sW_refuse M (-4)).bind (fun r9 =>
  (some (1000000000 - r9.1, r9.2))))))
noncomputable def sW_then (M : jm_M) (p1 : Int32) (p2 : Int32) (p3 : Int32) : Option (Int32 × jm_M) :=
  (if 0 ≤ p1 then
  (if p1 ≤ 60 then
  (if p2 < 0 then
  (sW_refuse M (-2)).bind (fun r4 =>
  (some (r4.1, r4.2)))
  else
  (if p2 ≤ 2 then
  (if p2 = 0 then
  (sT_hasPerson M 1 p3).bind (fun r7 =>
  (if r7 = 0 then
  (sW_refuse M (-1)).bind (fun r9 =>
  (some (r9.1, r9.2)))
  else
  (sF_after M 1 p1).bind (fun r10 =>
  (if p2 = 0 then
  (jm_rd 6 (r10 4 2) p3).bind (fun v12 =>
  (some (v12, r10)))
  else
  (if p2 = 1 then
  (jm_rd 10 (r10 4 10) p3).bind (fun v14 =>
  (sJ_bitCount v14).bind (fun r15 =>
  (some (r15, r10))))
  else
  (jm_rd 10 (r10 4 9) p3).bind (fun v16 =>
  (some (v16, r10))))))))
  else
  (sT_hasBook M 1 p3).bind (fun r17 =>
  (if r17 = 0 then
  (sW_refuse M (-1)).bind (fun r19 =>
  (some (r19.1, r19.2)))
  else
  (sF_after M 1 p1).bind (fun r20 =>
  (if p2 = 0 then
  (jm_rd 6 (r20 4 2) p3).bind (fun v22 =>
  (some (v22, r20)))
  else
  (if p2 = 1 then
  (jm_rd 10 (r20 4 10) p3).bind (fun v24 =>
  (sJ_bitCount v24).bind (fun r25 =>
  (some (r25, r20))))
  else
  (jm_rd 10 (r20 4 9) p3).bind (fun v26 =>
  (some (v26, r20)))))))))
  else
  (sW_refuse M (-2)).bind (fun r27 =>
  (some (r27.1, r27.2)))))
  else
  (sW_refuse M (-6)).bind (fun r28 =>
  (some (r28.1, r28.2))))
  else
  (sW_refuse M (-4)).bind (fun r29 =>
  (some (r29.1, r29.2))))
noncomputable def sF_weeksTillDown_L3 (p3 : Int32) (p1 : Int32) (p2 : Int32) (s1 : Int32 × jm_M) : Option ((Int32 × jm_M) ⊕ (jm_M ⊕ (Int32 × jm_M))) :=
  (if p3 < s1.1 then
  (some (.inr (.inl s1.2)))
  else
  (sT_comesDown s1.2 4 p1 p2).bind (fun r3 =>
  (if r3 = 0 then
  (sT_weekPasses s1.2 4 1).bind (fun r5 =>
  (some (.inl (s1.1 + 1, r5))))
  else
  (some (.inr (.inr (s1.1, s1.2)))))))
noncomputable def sF_weeksTillDown (M : jm_M) (p1 : Int32) (p2 : Int32) (p3 : Int32) : Option (Int32 × jm_M) :=
  Option.bind (jm_loop (sF_weeksTillDown_L3 p3 p1 p2) jm_N (0, M)) (Sum.elim (fun e6 =>
  (some ((-9), e6))) some)
noncomputable def sF_whenDown (M : jm_M) (p1 : Nat) (p2 : Int32) (p3 : Int32) : Option (Int32 × jm_M) :=
  (sF_think M p1).bind (fun r1 =>
  (sF_weeksTillDown r1 p2 p3 60).bind (fun r2 =>
  (some (r2.1, r2.2))))
noncomputable def sW_when (M : jm_M) (p1 : Int32) (p2 : Int32) : Option (Int32 × jm_M) :=
  (sW_areTwo M p1 p2).bind (fun r1 =>
  (if r1 = 0 then
  (sW_refuse M (-1)).bind (fun r3 =>
  (some (r3.1, r3.2)))
  else
  (sF_whenDown M 1 p1 p2).bind (fun r4 =>
  (some (r4.1, r4.2)))))
noncomputable def sF_firstFreshlyDown_L14 (M : jm_M) (p1 : Nat) (s1 : Int32) (s4 : Int32) : Option ((Int32) ⊕ (Unit ⊕ ((Int32) ⊕ (Unit ⊕ (Int32))))) :=
  (if (M p1 0 0) ≤ s4 then
  (some (.inr (.inl ())))
  else
  (sT_comesDown M 4 s1 s4).bind (fun r6 =>
  (if r6 = 0 then
  (some (.inl (s4 + 1)))
  else
  (sT_comesDown M p1 s1 s4).bind (fun r8 =>
  (if r8 = 0 then
  (some (.inr (.inr (.inr (.inr ((10 * s1) + s4))))))
  else
  (some (.inl (s4 + 1))))))))
noncomputable def sF_firstFreshlyDown_L2 (M : jm_M) (p1 : Nat) (s1 : Int32) : Option ((Int32) ⊕ (Unit ⊕ (Int32))) :=
  (if (M p1 0 0) ≤ s1 then
  (some (.inr (.inl ())))
  else
  (some (s1 + 1)).bind (fun x3 =>
  Option.bind (jm_loop (sF_firstFreshlyDown_L14 M p1 s1) jm_N x3) (Sum.elim (fun e10 =>
  (some (.inl (s1 + 1)))) some)))
noncomputable def sF_firstFreshlyDown (M : jm_M) (p1 : Nat) : Option (Int32) :=
  Option.bind (jm_loop (sF_firstFreshlyDown_L2 M p1) jm_N 0) (Sum.elim (fun e11 =>
  (some (-9))) some)
noncomputable def sF_firstDown_L7 (p1 : Nat) (s2 : Int32 × jm_M) : Option ((Int32 × jm_M) ⊕ (jm_M ⊕ (Int32 × jm_M))) :=
  (if 60 ≤ s2.1 then
  (some (.inr (.inl s2.2)))
  else
  (sT_weekPasses s2.2 4 1).bind (fun r4 =>
  (sF_firstFreshlyDown r4 p1).bind (fun r5 =>
  (if r5 = (-9) then
  (some (.inl (s2.1 + 1, r4)))
  else
  (some (.inr (.inr (r5, r4))))))))
noncomputable def sF_firstDown (M : jm_M) (p1 : Nat) : Option (Int32 × jm_M) :=
  (sF_think M p1).bind (fun r1 =>
  Option.bind (jm_loop (sF_firstDown_L7 p1) jm_N (0, r1)) (Sum.elim (fun e7 =>
  (some ((-9), e7))) some))
noncomputable def sW_first (M : jm_M) : Option (Int32 × jm_M) :=
  (sF_firstDown M 1).bind (fun r1 =>
  (some (r1.1, r1.2)))
noncomputable def sF_seekLoan_L19 (p1 : Nat) (p2 : Int32) (p3 : Int32) (s3 : Int32 × Int32 × jm_M) : Option ((Int32 × Int32 × jm_M) ⊕ (jm_M)) :=
  (if (s3.2.2 p1 0 4) ≤ s3.2.1 then
  (some (.inr s3.2.2))
  else
  (sT_isOnPan s3.2.2 p1 p2 p3 s3.2.1).bind (fun r5 =>
  (if r5 = 0 then
  (sF_think s3.2.2 p1).bind (fun r7 =>
  (jm_wa 10 r7 4 9 s3.2.1 p2).bind (fun M8 =>
  (sF_weeksTillDown M8 p2 p3 s3.1).bind (fun r9 =>
  (if r9.1 = (-9) then
  (some (.inl (s3.1, s3.2.1 + 1, r9.2)))
  else
  (jm_wf r9.2 15 3 s3.2.1).bind (fun M11 =>
  (jm_wf M11 15 4 r9.1).bind (fun M12 =>
  (some (r9.1 - 1)).bind (fun x13 =>
  (some (.inl (x13, s3.2.1 + 1, M12))))))))))
  else
  (some (.inl (s3.1, s3.2.1 + 1, s3.2.2))))))
noncomputable def sF_seekLoan (M : jm_M) (p1 : Nat) (p2 : Int32) (p3 : Int32) : Option (jm_M) :=
  (jm_wf M 15 3 (-9)).bind (fun M1 =>
  (jm_wf M1 15 4 (-9)).bind (fun M2 =>
  Option.bind (jm_loop (sF_seekLoan_L19 p1 p2 p3) jm_N (60, 0, M2)) (fun e14 =>
  (some e14))))
noncomputable def sW_borrow (M : jm_M) (p1 : Int32) (p2 : Int32) (p3 : Int32) : Option (Int32 × jm_M) :=
  (sW_areTwo M p1 p2).bind (fun r1 =>
  (if r1 = 0 then
  (sW_refuse M (-1)).bind (fun r3 =>
  (some (r3.1, r3.2)))
  else
  (sW_isNeither p3).bind (fun r4 =>
  (if r4 = 0 then
  (sF_seekLoan M 1 p1 p2).bind (fun r6 =>
  (if p3 = 0 then
  (some (r6 15 0 3, r6))
  else
  (some (r6 15 0 4, r6))))
  else
  (sW_refuse M (-2)).bind (fun r8 =>
  (some (r8.1, r8.2)))))))
noncomputable def sF_bestTaught_L22 (p1 : Nat) (p2 : Int32) (p5 : Int32) (p3 : Int32) (p4 : Int32) (s3 : Int32 × Int32 × Int32 × jm_M) : Option ((Int32 × Int32 × Int32 × jm_M) ⊕ (Int32 × jm_M)) :=
  (if (s3.2.2.2 p1 0 4) ≤ s3.2.2.1 then
  (some (.inr (s3.1, s3.2.2.2)))
  else
  (sF_think s3.2.2.2 p1).bind (fun r5 =>
  (jm_rd 10 (r5 4 10) s3.2.2.1).bind (fun v6 =>
  (jm_wa 10 r5 4 10 s3.2.2.1 (v6 ||| ((1 : Int32) <<< ((p2 : Int32) &&& 31)))).bind (fun M7 =>
  (sT_weeksPass M7 4 p5).bind (fun r8 =>
  (sT_overOf r8 4 p3 p4).bind (fun r9 =>
  (if r9 ≤ s3.2.1 then
  (some (.inl (s3.1, s3.2.1, s3.2.2.1 + 1, r8)))
  else
  (some (.inl (s3.2.2.1, r9, s3.2.2.1 + 1, r8))))))))))
noncomputable def sF_bestTaught (M : jm_M) (p1 : Nat) (p2 : Int32) (p3 : Int32) (p4 : Int32) (p5 : Int32) : Option (Int32 × jm_M) :=
  (sF_after M p1 p5).bind (fun r1 =>
  (sT_overOf r1 4 p3 p4).bind (fun r2 =>
  Option.bind (jm_loop (sF_bestTaught_L22 p1 p2 p5 p3 p4) jm_N ((-9), r2, 0, r1)) (fun e11 =>
  (some (e11.1, e11.2)))))
noncomputable def sW_taught (M : jm_M) (p1 : Int32) (p2 : Int32) (p3 : Int32) (p4 : Int32) : Option (Int32 × jm_M) :=
  (sT_hasPerson M 1 p1).bind (fun r1 =>
  (if r1 = 0 then
  (sW_refuse M (-1)).bind (fun r3 =>
  (some (r3.1, r3.2)))
  else
  (sW_areTwo M p2 p3).bind (fun r4 =>
  (if r4 = 0 then
  (sW_refuse M (-1)).bind (fun r6 =>
  (some (r6.1, r6.2)))
  else
  (if 0 ≤ p4 then
  (if p4 ≤ 60 then
  (sF_bestTaught M 1 p1 p2 p3 p4).bind (fun r9 =>
  (some (r9.1, r9.2)))
  else
  (sW_refuse M (-6)).bind (fun r10 =>
  (some (r10.1, r10.2))))
  else
  (sW_refuse M (-4)).bind (fun r11 =>
  (some (r11.1, r11.2))))))))
noncomputable def sF_bitsBy_L65 (e3 : Int32) (e1 : (Nat × Nat)) (p5 : Int32) (p3 : Int32) (p4 : Int32) (p1 : Nat × Nat) (s6 : Int32 × Int32 × jm_M) (s10 : Int32 × Int32 × jm_M) : Option ((Int32 × Int32 × jm_M) ⊕ (Int32 × jm_M)) :=
  (if e3 ≤ s10.2.1 then
  (some (.inr (s10.1, s10.2.2)))
  else
  (jm_len jm_LC e1).bind (fun N12 =>
  (jm_wa N12 s10.2.2 e1.1 e1.2 p5 s10.2.1).bind (fun M13 =>
  (sT_overOf M13 4 p3 p4).bind (fun r14 =>
  (jm_len jm_LC p1).bind (fun N15 =>
  (jm_rd N15 (M13 p1.1 p1.2) s6.2.1).bind (fun v16 =>
  (if r14 = v16 then
  (some (.inl (s10.1, s10.2.1 + 1, M13)))
  else
  (some (s10.1 &&& (((1 : Int32) <<< ((s10.2.1 : Int32) &&& 31)) ^^^ (-1)))).bind (fun x18 =>
  (some (.inl (x18, s10.2.1 + 1, M13)))))))))))
noncomputable def sF_bitsBy_L49 (p2 : Int32) (p1 : Nat × Nat) (e3 : Int32) (e1 : (Nat × Nat)) (p5 : Int32) (p3 : Int32) (p4 : Int32) (s6 : Int32 × Int32 × jm_M) : Option ((Int32 × Int32 × jm_M) ⊕ (Int32 × jm_M)) :=
  (if p2 ≤ s6.2.1 then
  (some (.inr (s6.1, s6.2.2)))
  else
  (jm_len jm_LC p1).bind (fun N8 =>
  (if (nI N8) ≤ s6.2.1 then
  (some (.inr (s6.1, s6.2.2)))
  else
  Option.bind (jm_loop (sF_bitsBy_L65 e3 e1 p5 p3 p4 p1 s6) jm_N (s6.1, 0, s6.2.2)) (fun e19 =>
  (sT_weekPasses e19.2 4 1).bind (fun r20 =>
  (some (.inl (e19.1, s6.2.1 + 1, r20))))))))
noncomputable def sF_bitsBy (M : jm_M) (p1 : Nat × Nat) (p2 : Int32) (p3 : Int32) (p4 : Int32) (p5 : Int32) (p6 : Int32) : Option (Int32 × jm_M) :=
  Option.bind (α := (Nat × Nat)) ((if p6 = 0 then
  (some (4, 7))
  else
  (some (4, 6)))) (fun e1 =>
  Option.bind (α := Int32) ((if p6 = 0 then
  (some 10)
  else
  (some 8))) (fun e3 =>
  (some (((1 : Int32) <<< ((e3 : Int32) &&& 31)) - 1)).bind (fun x5 =>
  Option.bind (jm_loop (sF_bitsBy_L49 p2 p1 e3 e1 p5 p3 p4) jm_N (x5, 0, M)) (fun e21 =>
  (some (e21.1, e21.2))))))
noncomputable def sW_whatKind (M : jm_M) (p1 : Int32) (p2 : Int32) (p3 : Int32) (p4 : Int32) : Option (Int32 × jm_M) :=
  (sW_areTwo M p1 p2).bind (fun r1 =>
  (if r1 = 0 then
  (sW_refuse M (-1)).bind (fun r3 =>
  (some (r3.1, r3.2)))
  else
  (sT_hasBook M 1 p3).bind (fun r4 =>
  (if r4 = 0 then
  (sW_refuse M (-1)).bind (fun r6 =>
  (some (r6.1, r6.2)))
  else
  (sW_isNeither p4).bind (fun r7 =>
  (if r7 = 0 then
  (sF_think M 1).bind (fun r9 =>
  Option.bind (α := Int32) ((if p4 = 0 then
  (some 1)
  else
  (some 0))) (fun e10 =>
  (sF_bitsBy r9 (0, 10) (r9 0 0 10) p1 p2 p3 e10).bind (fun r12 =>
  (some (r12.1, r12.2)))))
  else
  (sW_refuse M (-2)).bind (fun r13 =>
  (some (r13.1, r13.2)))))))))
noncomputable def sT_givesBack_L2 (t : Nat) (p1 : Int32) (s1 : Int32 × jm_M) : Option ((Int32 × jm_M) ⊕ (jm_M)) :=
  (if (s1.2 t 0 4) ≤ s1.1 then
  (some (.inr s1.2))
  else
  (jm_rd 10 (s1.2 t 9) s1.1).bind (fun v3 =>
  (if v3 = p1 then
  (jm_rd 10 (s1.2 t 8) s1.1).bind (fun v5 =>
  (jm_wa 10 s1.2 t 9 s1.1 v5).bind (fun M6 =>
  (some (.inl (s1.1 + 1, M6)))))
  else
  (some (.inl (s1.1 + 1, s1.2))))))
noncomputable def sT_givesBack (M : jm_M) (t : Nat) (p1 : Int32) : Option (jm_M) :=
  Option.bind (jm_loop (sT_givesBack_L2 t p1) jm_N (0, M)) (fun e7 =>
  (some e7))
noncomputable def sF_weighChoice (M : jm_M) (p1 : Nat) (p2 : Int32) (p3 : Int32) (p4 : Int32) (p5 : Int32) : Option (jm_M) :=
  (some ((p5 : Int32) >>> ((1 : Int32) &&& 31))).bind (fun x1 =>
  (some (p5 &&& 1)).bind (fun x2 =>
  (sF_think M p1).bind (fun r3 =>
  Option.bind (α := jm_M) ((if x1 = 1 then
  (sT_givesBack r3 4 p2).bind (fun r6 =>
  (some r6))
  else
  (some r3))) (fun e4 =>
  Option.bind (α := jm_M) ((if x2 = 1 then
  (sT_givesBack e4 4 p3).bind (fun r9 =>
  (some r9))
  else
  (some e4))) (fun e7 =>
  (sT_weeksPass e7 4 p4).bind (fun r10 =>
  (sT_readingsOf r10 4 p2).bind (fun r11 =>
  (jm_wa 4 r10 15 2 p5 (r11 + (2 * x1))).bind (fun M12 =>
  (sT_readingsOf M12 4 p3).bind (fun r13 =>
  (jm_wa 4 M12 15 3 p5 (r13 + (2 * x2))).bind (fun M14 =>
  (some M14)))))))))))
noncomputable def sF_steadyPair_L3 (p1 : Nat) (p2 : Int32) (p3 : Int32) (p4 : Int32) (s1 : Int32 × jm_M) : Option ((Int32 × jm_M) ⊕ (jm_M)) :=
  (if 4 ≤ s1.1 then
  (some (.inr s1.2))
  else
  (sF_weighChoice s1.2 p1 p2 p3 p4 s1.1).bind (fun r3 =>
  (some (.inl (s1.1 + 1, r3)))))
noncomputable def sF_steadyPair_L29 (e4 : jm_M) (s5 : Int32) : Option ((Int32) ⊕ (Unit ⊕ (Int32 × jm_M))) :=
  (if 4 ≤ s5 then
  (some (.inr (.inl ())))
  else
  (jm_rd 4 (e4 15 2) s5).bind (fun v7 =>
  (jm_rd 4 (e4 15 2) (s5 ^^^ 2)).bind (fun v8 =>
  (if v7 < v8 then
  (some (.inl (s5 + 1)))
  else
  (jm_rd 4 (e4 15 3) s5).bind (fun v10 =>
  (jm_rd 4 (e4 15 3) (s5 ^^^ 1)).bind (fun v11 =>
  (if v10 < v11 then
  (some (.inl (s5 + 1)))
  else
  (some (.inr (.inr ((10 * ((s5 : Int32) >>> ((1 : Int32) &&& 31))) + (s5 &&& 1), e4)))))))))))
noncomputable def sF_steadyPair (M : jm_M) (p1 : Nat) (p2 : Int32) (p3 : Int32) (p4 : Int32) : Option (Int32 × jm_M) :=
  Option.bind (jm_loop (sF_steadyPair_L3 p1 p2 p3 p4) jm_N (0, M)) (fun e4 =>
  Option.bind (jm_loop (sF_steadyPair_L29 e4) jm_N 0) (Sum.elim (fun e13 =>
  (some ((-9), e4))) some))
noncomputable def sW_two (M : jm_M) (p1 : Int32) (p2 : Int32) (p3 : Int32) : Option (Int32 × jm_M) :=
  (sW_areTwo M p1 p2).bind (fun r1 =>
  (if r1 = 0 then
  (sW_refuse M (-1)).bind (fun r3 =>
  (some (r3.1, r3.2)))
  else
  (if 1 ≤ p3 then
  (if p3 ≤ 30 then
  (sF_steadyPair M 1 p1 p2 p3).bind (fun r6 =>
  (some (r6.1, r6.2)))
  else
  (sW_refuse M (-6)).bind (fun r7 =>
  (some (r7.1, r7.2))))
  else
  (sW_refuse M (-4)).bind (fun r8 =>
  (some (r8.1, r8.2))))))
noncomputable def sF_dampCases_L27 (p4 : Int32) (s1 : Int64 × Int64 × Int64 × Int32 × jm_M) (s4 : Int32 × jm_M) : Option ((Int32 × jm_M) ⊕ (jm_M)) :=
  (if p4 ≤ s4.1 then
  (some (.inr s4.2))
  else
  Option.bind (α := Int32) ((if s1.2.2.2.1 ≤ s4.1 then
  (some 0)
  else
  (some 1))) (fun e6 =>
  (sT_weekPasses s4.2 4 e6).bind (fun r8 =>
  (some (.inl (s4.1 + 1, r8))))))
noncomputable def sF_dampCases_L12 (p4 : Int32) (p1 : Nat) (p2 : Int32) (p3 : Int32) (p5 : Int32) (s1 : Int64 × Int64 × Int64 × Int32 × jm_M) : Option ((Int64 × Int64 × Int64 × Int32 × jm_M) ⊕ (Int64 × jm_M)) :=
  (if p4 < s1.2.2.2.1 then
  (some (.inr (s1.1, s1.2.2.2.2)))
  else
  (sF_think s1.2.2.2.2 p1).bind (fun r3 =>
  Option.bind (jm_loop (sF_dampCases_L27 p4 s1) jm_N (0, r3)) (fun e9 =>
  (sT_comesDown e9 4 p2 p3).bind (fun r10 =>
  Option.bind (α := Int64) ((if r10 = 0 then
  (some s1.1)
  else
  (some (s1.1 + (s1.2.1 * s1.2.2.1))).bind (fun x13 =>
  (some x13)))) (fun e11 =>
  (jm_ldv (s1.2.1 * ((p4 - s1.2.2.2.1 : Int32).toInt64)) ((s1.2.2.2.1 + 1 : Int32).toInt64)).bind (fun v14 =>
  (some (s1.2.2.1 * ((p5 - 1 : Int32).toInt64))).bind (fun x15 =>
  (some (.inl (e11, v14, x15, s1.2.2.2.1 + 1, e9))))))))))
noncomputable def sF_dampCases (M : jm_M) (p1 : Nat) (p2 : Int32) (p3 : Int32) (p4 : Int32) (p5 : Int32) : Option (Int64 × jm_M) :=
  Option.bind (jm_loop (sF_dampCases_L12 p4 p1 p2 p3 p5) jm_N (0, 1, 1, 0, M)) (fun e16 =>
  (some (e16.1, e16.2)))
noncomputable def sQ_power_L5 (p2 : Int32) (p1 : Int64) (s1 : Int64 × Int32) : Option ((Int64 × Int32) ⊕ (Int64)) :=
  (if p2 ≤ s1.2 then
  (some (.inr s1.1))
  else
  (some (s1.1 * p1)).bind (fun x3 =>
  (some (.inl (x3, s1.2 + 1)))))
noncomputable def sQ_power (p1 : Int64) (p2 : Int32) : Option (Int64) :=
  Option.bind (jm_loop (sQ_power_L5 p2 p1) jm_N (1, 0)) (fun e4 =>
  (some e4))
noncomputable def sQ_sharedDivisor_L9  (s1 : Int64 × Int64 × Int32) : Option ((Int64 × Int64 × Int32) ⊕ (Int64)) :=
  (if 130 ≤ s1.2.2 then
  (some (.inr s1.1))
  else
  (if (lg_cmp s1.2.1 0) = 0 then
  (some (.inr s1.1))
  else
  (jm_lrm s1.1 s1.2.1).bind (fun v4 =>
  (some (.inl (s1.2.1, v4, s1.2.2 + 1))))))
noncomputable def sQ_sharedDivisor (p1 : Int64) (p2 : Int64) : Option (Int64) :=
  Option.bind (jm_loop (sQ_sharedDivisor_L9) jm_N (p1, p2, 0)) (fun e5 =>
  (some e5))
noncomputable def sQ_part (p1 : Int64) (p2 : Int64) (p3 : Int32) : Option (Int64) :=
  (if (lg_cmp p1 0) = 0 then
  (some ((p3 : Int32).toInt64))
  else
  (sQ_sharedDivisor p1 p2).bind (fun r2 =>
  (if (lg_cmp r2 0) = 0 then
  (some ((p3 : Int32).toInt64))
  else
  (if p3 = 0 then
  (jm_ldv p1 r2).bind (fun v5 =>
  (some v5))
  else
  (jm_ldv p2 r2).bind (fun v6 =>
  (some v6))))))
noncomputable def sW_damp (M : jm_M) (p1 : Int32) (p2 : Int32) (p3 : Int32) (p4 : Int32) (p5 : Int32) : Option (Int64 × jm_M) :=
  (sW_areTwo M p1 p2).bind (fun r1 =>
  (if r1 = 0 then
  (sW_refuse M (-1)).bind (fun r3 =>
  (some (4000000000000000000 - ((r3.1 : Int32).toInt64), r3.2)))
  else
  (if p3 < 0 then
  (sW_refuse M (-4)).bind (fun r5 =>
  (some (4000000000000000000 - ((r5.1 : Int32).toInt64), r5.2)))
  else
  (if 2 ≤ p4 then
  (if 7 < p3 then
  (sW_refuse M (-6)).bind (fun r8 =>
  (some (4000000000000000000 - ((r8.1 : Int32).toInt64), r8.2)))
  else
  (if p4 ≤ 20 then
  (sW_isNeither p5).bind (fun r10 =>
  (if r10 = 0 then
  (sF_dampCases M 1 p1 p2 p3 p4).bind (fun r12 =>
  (sQ_power ((p4 : Int32).toInt64) p3).bind (fun r13 =>
  (sQ_part r12.1 r13 p5).bind (fun r14 =>
  (some (r14, r12.2)))))
  else
  (sW_refuse M (-2)).bind (fun r15 =>
  (some (4000000000000000000 - ((r15.1 : Int32).toInt64), r15.2)))))
  else
  (sW_refuse M (-6)).bind (fun r16 =>
  (some (4000000000000000000 - ((r16.1 : Int32).toInt64), r16.2)))))
  else
  (sW_refuse M (-4)).bind (fun r17 =>
  (some (4000000000000000000 - ((r17.1 : Int32).toInt64), r17.2)))))))
noncomputable def sF_keeperDrawn (M : jm_M) (p1 : Int32) : Option (Int32) :=
  (if (M 4 0 0) ≤ 0 then
  (some 9)
  else
  (jm_dv (p1 &&& 2147483647) 65536).bind (fun v2 =>
  (jm_rm v2 (M 4 0 0)).bind (fun v3 =>
  (some v3))))
noncomputable def sT_readings_L4 (M : jm_M) (t : Nat) (s1 : Int32 × Int32) : Option ((Int32 × Int32) ⊕ (Int32)) :=
  (if (M t 0 4) ≤ s1.2 then
  (some (.inr s1.1))
  else
  (jm_rd 10 (M t 10) s1.2).bind (fun v3 =>
  (sJ_bitCount v3).bind (fun r4 =>
  (some (s1.1 + r4)).bind (fun x5 =>
  (some (.inl (x5, s1.2 + 1)))))))
noncomputable def sT_readings (M : jm_M) (t : Nat) : Option (Int32) :=
  Option.bind (jm_loop (sT_readings_L4 M t) jm_N (0, 0)) (fun e6 =>
  (some e6))
noncomputable def sT_twosDown_L16 (M : jm_M) (t : Nat) (s1 : Int32 × Int32) (s4 : Int32 × Int32) : Option ((Int32 × Int32) ⊕ (Int32)) :=
  (if (M t 0 0) ≤ s4.2 then
  (some (.inr s4.1))
  else
  (sT_comesDown M t s1.2 s4.2).bind (fun r6 =>
  (if r6 = 0 then
  (some (.inl (s4.1, s4.2 + 1)))
  else
  (some (.inl (s4.1 + 1, s4.2 + 1))))))
noncomputable def sT_twosDown_L4 (M : jm_M) (t : Nat) (s1 : Int32 × Int32) : Option ((Int32 × Int32) ⊕ (Int32)) :=
  (if (M t 0 0) ≤ s1.2 then
  (some (.inr s1.1))
  else
  (some (s1.2 + 1)).bind (fun x3 =>
  Option.bind (jm_loop (sT_twosDown_L16 M t s1) jm_N (s1.1, x3)) (fun e8 =>
  (some (.inl (e8, s1.2 + 1))))))
noncomputable def sT_twosDown (M : jm_M) (t : Nat) : Option (Int32) :=
  Option.bind (jm_loop (sT_twosDown_L4 M t) jm_N (0, 0)) (fun e9 =>
  (some e9))
noncomputable def sF_drawSprings_L30  (s6 : Int32 × Int32 × jm_M) : Option ((Int32 × Int32 × jm_M) ⊕ (Int32 × jm_M)) :=
  (if (s6.2.2 4 0 4) ≤ s6.2.1 then
  (some (.inr (s6.1, s6.2.2)))
  else
  (some ((s6.1 * 1103515245) + 12345)).bind (fun x8 =>
  (sF_keeperDrawn s6.2.2 x8).bind (fun r9 =>
  (jm_wa 10 s6.2.2 4 9 s6.2.1 r9).bind (fun M10 =>
  (some (.inl (x8, s6.2.1 + 1, M10)))))))
noncomputable def sF_drawSprings_L16 (p2 : Int32) (p1 : Nat) (s3 : Int32 × Int32 × jm_M) : Option ((Int32 × Int32 × jm_M) ⊕ (jm_M)) :=
  (if p2 ≤ s3.2.1 then
  (some (.inr s3.2.2))
  else
  (sF_think s3.2.2 p1).bind (fun r5 =>
  Option.bind (jm_loop (sF_drawSprings_L30) jm_N (s3.1, 0, r5)) (fun e11 =>
  (sT_weeksPass e11.2 4 8).bind (fun r12 =>
  (sT_readings r12 4).bind (fun r13 =>
  (sT_readings r12 p1).bind (fun r14 =>
  (jm_wf r12 15 5 ((r12 15 0 5) + (r13 - r14))).bind (fun M15 =>
  (sT_twosDown M15 4).bind (fun r16 =>
  (jm_wf M15 15 6 ((M15 15 0 6) + r16)).bind (fun M17 =>
  (some (.inl (e11.1, s3.2.1 + 1, M17))))))))))))
noncomputable def sF_drawSprings (M : jm_M) (p1 : Nat) (p2 : Int32) (p3 : Int32) : Option (jm_M) :=
  (jm_wf M 15 5 0).bind (fun M1 =>
  (jm_wf M1 15 6 0).bind (fun M2 =>
  Option.bind (jm_loop (sF_drawSprings_L16 p2 p1) jm_N (p3, 0, M2)) (fun e18 =>
  (some e18))))
noncomputable def sW_lots (M : jm_M) (p1 : Int32) (p2 : Int32) (p3 : Int32) : Option (Int32 × jm_M) :=
  (if 1 ≤ p1 then
  (if p1 ≤ 20 then
  (sW_isNeither p3).bind (fun r3 =>
  (if r3 = 0 then
  (sF_drawSprings M 1 p1 p2).bind (fun r5 =>
  (if p3 = 0 then
  (some (r5 15 0 5, r5))
  else
  (some (r5 15 0 6, r5))))
  else
  (sW_refuse M (-2)).bind (fun r7 =>
  (some (r7.1, r7.2)))))
  else
  (sW_refuse M (-6)).bind (fun r8 =>
  (some (r8.1, r8.2))))
  else
  (sW_refuse M (-4)).bind (fun r9 =>
  (some (r9.1, r9.2))))
noncomputable def sT_rankOf_L4 (M : jm_M) (t : Nat) (p1 : Int32) (s1 : Int32 × Int32) : Option ((Int32 × Int32) ⊕ (Int32)) :=
  (if (M t 0 4) ≤ s1.2 then
  (some (.inr s1.1))
  else
  (jm_rd 10 (M t 11) s1.2).bind (fun v3 =>
  (jm_rd 10 (M t 11) p1).bind (fun v4 =>
  (if v4 ≤ v3 then
  (some (.inl (s1.1, s1.2 + 1)))
  else
  (some (.inl (s1.1 + 1, s1.2 + 1)))))))
noncomputable def sT_rankOf (M : jm_M) (t : Nat) (p1 : Int32) : Option (Int32) :=
  Option.bind (jm_loop (sT_rankOf_L4 M t p1) jm_N (0, 0)) (fun e6 =>
  (some e6))
noncomputable def sT_firstTitleFrom_L5 (M : jm_M) (t : Nat) (p1 : Int32) (s1 : Int32 × Int32) : Option ((Int32 × Int32) ⊕ (Int32)) :=
  (if (M t 0 4) ≤ s1.2 then
  (some (.inr s1.1))
  else
  (jm_rd 10 (M t 11) s1.2).bind (fun v3 =>
  (if v3 < p1 then
  (some (.inl (s1.1, s1.2 + 1)))
  else
  (if s1.1 = (-9) then
  (some (.inl (s1.2, s1.2 + 1)))
  else
  (jm_rd 10 (M t 11) s1.2).bind (fun v6 =>
  (jm_rd 10 (M t 11) s1.1).bind (fun v7 =>
  (if v7 ≤ v6 then
  (some (.inl (s1.1, s1.2 + 1)))
  else
  (some (.inl (s1.2, s1.2 + 1))))))))))
noncomputable def sT_firstTitleFrom (M : jm_M) (t : Nat) (p1 : Int32) : Option (Int32) :=
  Option.bind (jm_loop (sT_firstTitleFrom_L5 M t p1) jm_N ((-9), 0)) (fun e9 =>
  (some e9))
noncomputable def sW_titles (M : jm_M) (p1 : Int32) (p2 : Int32) : Option (Int32 × jm_M) :=
  (sT_hasBook M 1 p1).bind (fun r1 =>
  (if r1 = 0 then
  (sW_refuse M (-1)).bind (fun r3 =>
  (some (r3.1, r3.2)))
  else
  (if p2 = 0 then
  (sT_rankOf M 1 p1).bind (fun r5 =>
  (some (r5, M)))
  else
  (if p2 = 1 then
  (jm_rd 10 (M 1 11) p1).bind (fun v7 =>
  (sT_firstTitleFrom M 1 (v7 + 1)).bind (fun r8 =>
  (some (r8, M))))
  else
  (sW_refuse M (-2)).bind (fun r9 =>
  (some (r9.1, r9.2)))))))
noncomputable def sW_from (M : jm_M) (p1 : Int32) : Option (Int32 × jm_M) :=
  (if 0 ≤ p1 then
  (if p1 ≤ 25 then
  (sI_ofLetter p1).bind (fun r3 =>
  (sT_firstTitleFrom M 1 r3).bind (fun r4 =>
  (some (r4, M))))
  else
  (sW_refuse M (-6)).bind (fun r5 =>
  (some (r5.1, r5.2))))
  else
  (sW_refuse M (-4)).bind (fun r6 =>
  (some (r6.1, r6.2))))
noncomputable def sT_kindsHeldBy_L4 (M : jm_M) (t : Nat) (p1 : Int32) (s1 : Int32 × Int32) : Option ((Int32 × Int32) ⊕ (Int32)) :=
  (if (M t 0 4) ≤ s1.2 then
  (some (.inr s1.1))
  else
  (jm_rd 10 (M t 9) s1.2).bind (fun v3 =>
  (if v3 = p1 then
  (jm_rd 10 (M t 6) s1.2).bind (fun v5 =>
  (some (s1.1 ||| ((1 : Int32) <<< ((v5 : Int32) &&& 31)))).bind (fun x6 =>
  (some (.inl (x6, s1.2 + 1)))))
  else
  (some (.inl (s1.1, s1.2 + 1))))))
noncomputable def sT_kindsHeldBy (M : jm_M) (t : Nat) (p1 : Int32) : Option (Int32) :=
  Option.bind (jm_loop (sT_kindsHeldBy_L4 M t p1) jm_N (0, 0)) (fun e7 =>
  (some e7))
noncomputable def sT_pricesHeldBy_L4 (M : jm_M) (t : Nat) (p1 : Int32) (s1 : Int32 × Int32) : Option ((Int32 × Int32) ⊕ (Int32)) :=
  (if (M t 0 4) ≤ s1.2 then
  (some (.inr s1.1))
  else
  (jm_rd 10 (M t 9) s1.2).bind (fun v3 =>
  (if v3 = p1 then
  (sT_priceOf M t s1.2).bind (fun r5 =>
  (some (s1.1 + r5)).bind (fun x6 =>
  (some (.inl (x6, s1.2 + 1)))))
  else
  (some (.inl (s1.1, s1.2 + 1))))))
noncomputable def sT_pricesHeldBy (M : jm_M) (t : Nat) (p1 : Int32) : Option (Int32) :=
  Option.bind (jm_loop (sT_pricesHeldBy_L4 M t p1) jm_N (0, 0)) (fun e7 =>
  (some e7))
noncomputable def sT_mostHeldKind_L21 (M : jm_M) (t : Nat) (p1 : Int32) (s1 : Int32 × Int32 × Int32) (s3 : Int32 × Int32) : Option ((Int32 × Int32) ⊕ (Int32)) :=
  (if (M t 0 4) ≤ s3.2 then
  (some (.inr s3.1))
  else
  (jm_rd 10 (M t 9) s3.2).bind (fun v5 =>
  (if v5 = p1 then
  (jm_rd 10 (M t 6) s3.2).bind (fun v7 =>
  (if v7 = s1.2.2 then
  (some (.inl (s3.1 + 1, s3.2 + 1)))
  else
  (some (.inl (s3.1, s3.2 + 1)))))
  else
  (some (.inl (s3.1, s3.2 + 1))))))
noncomputable def sT_mostHeldKind_L8 (M : jm_M) (t : Nat) (p1 : Int32) (s1 : Int32 × Int32 × Int32) : Option ((Int32 × Int32 × Int32) ⊕ (Int32)) :=
  (if 8 ≤ s1.2.2 then
  (some (.inr s1.2.1))
  else
  Option.bind (jm_loop (sT_mostHeldKind_L21 M t p1 s1) jm_N (0, 0)) (fun e9 =>
  (if e9 ≤ s1.1 then
  (some (.inl (s1.1, s1.2.1, s1.2.2 + 1)))
  else
  (some (.inl (e9, s1.2.2, s1.2.2 + 1))))))
noncomputable def sT_mostHeldKind (M : jm_M) (t : Nat) (p1 : Int32) : Option (Int32) :=
  Option.bind (jm_loop (sT_mostHeldKind_L8 M t p1) jm_N (0, (-9), 0)) (fun e11 =>
  (some e11))
noncomputable def sW_shelf (M : jm_M) (p1 : Int32) (p2 : Int32) : Option (Int32 × jm_M) :=
  (sT_hasKeeper M 1 p1).bind (fun r1 =>
  (if r1 = 0 then
  (sW_refuse M (-1)).bind (fun r3 =>
  (some (r3.1, r3.2)))
  else
  (if p2 = 0 then
  (sT_booksWith M 1 (1, 9) p1).bind (fun r5 =>
  (some (r5, M)))
  else
  (if p2 = 1 then
  (sT_kindsHeldBy M 1 p1).bind (fun r7 =>
  (some (r7, M)))
  else
  (if p2 = 2 then
  (sT_pricesHeldBy M 1 p1).bind (fun r9 =>
  (some (r9, M)))
  else
  (if p2 = 3 then
  (sT_mostHeldKind M 1 p1).bind (fun r11 =>
  (some (r11, M)))
  else
  (sW_refuse M (-2)).bind (fun r12 =>
  (some (r12.1, r12.2)))))))))
noncomputable def sT_closestTwo_L20 (M : jm_M) (t : Nat) (s1 : Int32 × Int32 × Int32) (s4 : Int32 × Int32 × Int32) : Option ((Int32 × Int32 × Int32) ⊕ (Int32 × Int32)) :=
  (if (M t 0 0) ≤ s4.2.2 then
  (some (.inr (s4.1, s4.2.1)))
  else
  (sT_overOf M t s1.2.2 s4.2.2).bind (fun r6 =>
  (some (jm_abs r6)).bind (fun x7 =>
  (if s4.1 = (-9) then
  (some ((10 * s1.2.2) + s4.2.2)).bind (fun x9 =>
  (some (.inl (x9, x7, s4.2.2 + 1))))
  else
  (if s4.2.1 ≤ x7 then
  (some (.inl (s4.1, s4.2.1, s4.2.2 + 1)))
  else
  (some ((10 * s1.2.2) + s4.2.2)).bind (fun x11 =>
  (some (.inl (x11, x7, s4.2.2 + 1)))))))))
noncomputable def sT_closestTwo_L7 (M : jm_M) (t : Nat) (s1 : Int32 × Int32 × Int32) : Option ((Int32 × Int32 × Int32) ⊕ (Int32)) :=
  (if (M t 0 0) ≤ s1.2.2 then
  (some (.inr s1.1))
  else
  (some (s1.2.2 + 1)).bind (fun x3 =>
  Option.bind (jm_loop (sT_closestTwo_L20 M t s1) jm_N (s1.1, s1.2.1, x3)) (fun e12 =>
  (some (.inl (e12.1, e12.2, s1.2.2 + 1))))))
noncomputable def sT_closestTwo (M : jm_M) (t : Nat) : Option (Int32) :=
  Option.bind (jm_loop (sT_closestTwo_L7 M t) jm_N ((-9), 0, 0)) (fun e13 =>
  (some e13))
noncomputable def sT_leastTownPrice_L6 (M : jm_M) (t : Nat) (s1 : Int32 × Int32 × Int32) : Option ((Int32 × Int32 × Int32) ⊕ (Int32)) :=
  (if (M t 0 4) ≤ s1.2.2 then
  (some (.inr s1.1))
  else
  (jm_rd 10 (M t 8) s1.2.2).bind (fun v3 =>
  (if v3 = 9 then
  (if s1.2.1 = 0 then
  (sT_priceOf M t s1.2.2).bind (fun r6 =>
  (some (.inl (r6, 1, s1.2.2 + 1))))
  else
  (sT_priceOf M t s1.2.2).bind (fun r7 =>
  (if s1.1 ≤ r7 then
  (some (.inl (s1.1, s1.2.1, s1.2.2 + 1)))
  else
  (sT_priceOf M t s1.2.2).bind (fun r9 =>
  (some (.inl (r9, 1, s1.2.2 + 1)))))))
  else
  (some (.inl (s1.1, s1.2.1, s1.2.2 + 1))))))
noncomputable def sT_leastTownPrice (M : jm_M) (t : Nat) : Option (Int32) :=
  Option.bind (jm_loop (sT_leastTownPrice_L6 M t) jm_N (0, 0, 0)) (fun e10 =>
  (some e10))
noncomputable def sT_poorPeople_L9 (M : jm_M) (t : Nat) (r1 : Int32) (s2 : Int32 × Int32) : Option ((Int32 × Int32) ⊕ (Int32)) :=
  (if (M t 0 0) ≤ s2.2 then
  (some (.inr s2.1))
  else
  (jm_rd 6 (M t 4) s2.2).bind (fun v4 =>
  (if r1 ≤ v4 then
  (some (.inl (s2.1, s2.2 + 1)))
  else
  (some (.inl (s2.1 + 1, s2.2 + 1))))))
noncomputable def sT_poorPeople (M : jm_M) (t : Nat) : Option (Int32) :=
  (sT_leastTownPrice M t).bind (fun r1 =>
  Option.bind (jm_loop (sT_poorPeople_L9 M t r1) jm_N (0, 0)) (fun e6 =>
  (some e6)))
noncomputable def sT_unreadBooks_L4 (M : jm_M) (t : Nat) (s1 : Int32 × Int32) : Option ((Int32 × Int32) ⊕ (Int32)) :=
  (if (M t 0 4) ≤ s1.2 then
  (some (.inr s1.1))
  else
  (jm_rd 10 (M t 10) s1.2).bind (fun v3 =>
  (if v3 = 0 then
  (some (s1.1 ||| ((1 : Int32) <<< ((s1.2 : Int32) &&& 31)))).bind (fun x5 =>
  (some (.inl (x5, s1.2 + 1))))
  else
  (some (.inl (s1.1, s1.2 + 1))))))
noncomputable def sT_unreadBooks (M : jm_M) (t : Nat) : Option (Int32) :=
  Option.bind (jm_loop (sT_unreadBooks_L4 M t) jm_N (0, 0)) (fun e6 =>
  (some e6))
noncomputable def sT_lentBooks_L4 (M : jm_M) (t : Nat) (s1 : Int32 × Int32) : Option ((Int32 × Int32) ⊕ (Int32)) :=
  (if (M t 0 4) ≤ s1.2 then
  (some (.inr s1.1))
  else
  (jm_rd 10 (M t 9) s1.2).bind (fun v3 =>
  (jm_rd 10 (M t 8) s1.2).bind (fun v4 =>
  (if v3 = v4 then
  (some (.inl (s1.1, s1.2 + 1)))
  else
  (some (s1.1 ||| ((1 : Int32) <<< ((s1.2 : Int32) &&& 31)))).bind (fun x6 =>
  (some (.inl (x6, s1.2 + 1))))))))
noncomputable def sT_lentBooks (M : jm_M) (t : Nat) : Option (Int32) :=
  Option.bind (jm_loop (sT_lentBooks_L4 M t) jm_N (0, 0)) (fun e7 =>
  (some e7))
noncomputable def sW_sight (M : jm_M) (p1 : Int32) : Option (Int32 × jm_M) :=
  (if p1 = 0 then
  (sT_closestTwo M 1).bind (fun r2 =>
  (some (r2, M)))
  else
  (if p1 = 1 then
  (sT_poorPeople M 1).bind (fun r4 =>
  (some (r4, M)))
  else
  (if p1 = 2 then
  (sT_unreadBooks M 1).bind (fun r6 =>
  (some (r6, M)))
  else
  (if p1 = 3 then
  (sT_lentBooks M 1).bind (fun r8 =>
  (some (r8, M)))
  else
  (sW_refuse M (-2)).bind (fun r9 =>
  (some (r9.1, r9.2)))))))
noncomputable def sW_share (M : jm_M) (p1 : Int32) (p2 : Int32) : Option (Int64 × jm_M) :=
  (sT_hasPerson M 1 p1).bind (fun r1 =>
  (if r1 = 0 then
  (sW_refuse M (-1)).bind (fun r3 =>
  (some (4000000000000000000 - ((r3.1 : Int32).toInt64), r3.2)))
  else
  (sW_isNeither p2).bind (fun r4 =>
  (if r4 = 0 then
  (sT_readingsOf M 1 p1).bind (fun r6 =>
  (sQ_part ((r6 : Int32).toInt64) ((M 1 0 4 : Int32).toInt64) p2).bind (fun r7 =>
  (some (r7, M))))
  else
  (sW_refuse M (-2)).bind (fun r8 =>
  (some (4000000000000000000 - ((r8.1 : Int32).toInt64), r8.2)))))))
noncomputable def sW_byHeart (M : jm_M) (p1 : Int32) (p2 : Int32) : Option (Int32 × jm_M) :=
  (sW_areTwo M p1 p2).bind (fun r1 =>
  (if r1 = 0 then
  (sW_refuse M (-1)).bind (fun r3 =>
  (some (r3.1, r3.2)))
  else
  (sT_booksReadBy M 1 p1).bind (fun r4 =>
  (sT_booksReadBy M 1 p2).bind (fun r5 =>
  (some (r4 &&& r5, M))))))
noncomputable def sW_kinds (M : jm_M) (p1 : Int32) : Option (Int32 × jm_M) :=
  (if p1 < 0 then
  (sW_refuse M (-2)).bind (fun r2 =>
  (some (r2.1, r2.2)))
  else
  (if p1 < 8 then
  (sT_booksWith M 1 (1, 6) p1).bind (fun r4 =>
  (some (r4, M)))
  else
  (sW_refuse M (-2)).bind (fun r5 =>
  (some (r5.1, r5.2)))))
noncomputable def sW_row (M : jm_M) (p1 : Int32) : Option (Int32 × jm_M) :=
  (if (-99) ≤ p1 then
  (if 99 < p1 then
  (sW_refuse M (-6)).bind (fun r3 =>
  (some (r3.1, r3.2)))
  else
  (if (M 0 0 10) < 12 then
  (jm_wa 12 M 0 10 (M 0 0 10) p1).bind (fun M5 =>
  (jm_wf M5 0 10 ((M5 0 0 10) + 1)).bind (fun M6 =>
  (some (M6 0 0 10, M6))))
  else
  (sW_refuse M (-6)).bind (fun r7 =>
  (some (r7.1, r7.2)))))
  else
  (sW_refuse M (-4)).bind (fun r8 =>
  (some (r8.1, r8.2))))
noncomputable def sW_judge_L10 (M : jm_M) (s2 : Int32 × Int32) : Option ((Int32 × Int32) ⊕ (Int32)) :=
  (if s2.2 < 0 then
  (some (.inr s2.1))
  else
  (sT_hasPerson M 1 s2.2).bind (fun r4 =>
  (if r4 = 0 then
  (some (.inl (s2.2, s2.2 + (-1))))
  else
  (jm_rd 6 (M 1 2) s2.2).bind (fun v6 =>
  (jm_rd 12 (M 0 10) s2.2).bind (fun v7 =>
  (if v6 = v7 then
  (some (.inl (s2.1, s2.2 + (-1))))
  else
  (some (.inl (s2.2, s2.2 + (-1))))))))))
noncomputable def sW_judge (M : jm_M) : Option (Int32 × jm_M) :=
  (some ((M 0 0 10) - 1)).bind (fun x1 =>
  Option.bind (jm_loop (sW_judge_L10 M) jm_N ((-9), x1)) (fun e9 =>
  (jm_wf M 0 10 0).bind (fun M10 =>
  (some (e9, M10)))))
noncomputable def sW_clear (M : jm_M) : Option (Int32 × jm_M) :=
  (some (M 0 0 10)).bind (fun x1 =>
  (jm_wf M 0 10 0).bind (fun M2 =>
  (some (x1, M2))))
noncomputable def sW_image (M : jm_M) : Option (Int32 × jm_M) :=
  (sT_copyFrom M 2 1).bind (fun r1 =>
  (jm_wz r1 0 3 1).bind (fun M2 =>
  (some (M2 1 0 11, M2))))
noncomputable def sW_restore (M : jm_M) : Option (Int32 × jm_M) :=
  (if (M 0 0 3) = 0 then
  (sW_refuse M (-3)).bind (fun r2 =>
  (some (r2.1, r2.2)))
  else
  (sT_copyFrom M 1 2).bind (fun r3 =>
  (sP_forget r3).bind (fun r4 =>
  (some (r4 1 0 11, r4)))))
noncomputable def sT_weightOfAll_L4 (M : jm_M) (t : Nat) (s1 : Int32 × Int32) : Option ((Int32 × Int32) ⊕ (Int32)) :=
  (if (M t 0 0) ≤ s1.2 then
  (some (.inr s1.1))
  else
  (jm_rd 6 (M t 2) s1.2).bind (fun v3 =>
  (some (s1.1 + v3)).bind (fun x4 =>
  (some (.inl (x4, s1.2 + 1))))))
noncomputable def sT_weightOfAll (M : jm_M) (t : Nat) : Option (Int32) :=
  Option.bind (jm_loop (sT_weightOfAll_L4 M t) jm_N (0, 0)) (fun e5 =>
  (some e5))
noncomputable def sW_count (M : jm_M) (p1 : Int32) : Option (Int32) :=
  (if p1 = 0 then
  (some (M 1 0 0))
  else
  (if p1 = 1 then
  (some (M 1 0 4))
  else
  (if p1 = 2 then
  (some (M 1 0 11))
  else
  (if p1 = 3 then
  (some (M 1 0 12))
  else
  (if p1 = 4 then
  (sT_weightOfAll M 1).bind (fun r6 =>
  (some r6))
  else
  (if p1 = 5 then
  (some (M 14 0 1))
  else
  (if p1 = 6 then
  (some (M 0 0 10))
  else
  (if p1 = 7 then
  (some (M 13 0 2))
  else
  (if p1 = 8 then
  (sT_twosDown M 1).bind (fun r11 =>
  (some r11))
  else
  (if p1 < 11 then
  (some (-9))
  else
  (if 16 < p1 then
  (some (-9))
  else
  (jm_rd 7 (M 0 12) (p1 - 10)).bind (fun v14 =>
  (some v14)))))))))))))
noncomputable def sM_no (M : jm_M) (p1 : Int32) : Option (Int32 × jm_M) :=
  (jm_rd 7 (M 0 1) (-p1)).bind (fun v1 =>
  (jm_wa 7 M 0 1 (-p1) (v1 + 1)).bind (fun M2 =>
  (some (p1, M2))))
noncomputable def sM_lower (M : jm_M) (p1 : Int32) : Option (Int32 × jm_M) :=
  (jm_rd 7 (M 0 1) (-p1)).bind (fun v1 =>
  (jm_wa 7 M 0 1 (-p1) (v1 + 1)).bind (fun M2 =>
  (some (1000000000 - p1, M2))))
noncomputable def sM_lowestOf (M : jm_M) (p1 : Int32) : Option (Int64 × jm_M) :=
  (jm_rd 7 (M 0 1) (-p1)).bind (fun v1 =>
  (jm_wa 7 M 0 1 (-p1) (v1 + 1)).bind (fun M2 =>
  (some (4000000000000000000 - ((p1 : Int32).toInt64), M2))))
noncomputable def sM_isIn (p1 : Int32) (p2 : Int32) (p3 : Int32) : Option (Int32) :=
  (if p1 < p2 then
  (some 0)
  else
  (if p3 < p1 then
  (some 0)
  else
  (some 1)))
noncomputable def sM_bound (p1 : Int32) (p2 : Int32) (p3 : Int32) : Option (Int32) :=
  (if p2 ≤ p1 then
  (if p1 ≤ p3 then
  (some 0)
  else
  (some (-6)))
  else
  (some (-4)))
noncomputable def sM_has (p1 : Int32) (p2 : Int32) : Option (Int32) :=
  (if (((p1 : Int32) >>> ((p2 : Int32) &&& 31)) &&& 1) = 1 then
  (some 1)
  else
  (some 0))
noncomputable def sM_bits_L4 (p1 : Int32) (s1 : Int32 × Int32) : Option ((Int32 × Int32) ⊕ (Int32)) :=
  (if 31 ≤ s1.2 then
  (some (.inr s1.1))
  else
  (some (s1.1 + (((p1 : Int32) >>> ((s1.2 : Int32) &&& 31)) &&& 1))).bind (fun x3 =>
  (some (.inl (x3, s1.2 + 1)))))
noncomputable def sM_bits (p1 : Int32) : Option (Int32) :=
  Option.bind (jm_loop (sM_bits_L4 p1) jm_N (0, 0)) (fun e4 =>
  (some e4))
noncomputable def sM_isPerson (M : jm_M) (p1 : Int32) : Option (Int32) :=
  (sM_isIn p1 0 ((M 0 0 13) - 1)).bind (fun r1 =>
  (jm_bz r1).bind (fun x2 => some x2))
noncomputable def sM_isPlace (M : jm_M) (p1 : Int32) : Option (Int32) :=
  (if p1 = 9 then
  (some 1)
  else
  (sM_isPerson M p1).bind (fun r2 =>
  (if r2 = 0 then
  (some 0)
  else
  (some 1))))
noncomputable def sM_isBook (M : jm_M) (p1 : Int32) : Option (Int32) :=
  (sM_isIn p1 0 ((M 0 0 14) - 1)).bind (fun r1 =>
  (jm_bz r1).bind (fun x2 => some x2))
noncomputable def sM_areTwo (M : jm_M) (p1 : Int32) (p2 : Int32) : Option (Int32) :=
  (sM_isPerson M p1).bind (fun r1 =>
  (if r1 = 0 then
  (some 0)
  else
  (sM_isPerson M p2).bind (fun r3 =>
  (if r3 = 0 then
  (some 0)
  else
  (if p1 = p2 then
  (some 0)
  else
  (some 1))))))
noncomputable def sM_asNovel (M : jm_M) (p1 : Int32) : Option (Int32) :=
  (jm_rd 10 (M 0 9) p1).bind (fun v1 =>
  (sM_bits v1).bind (fun r2 =>
  (if r2 = 0 then
  (some 0)
  else
  (jm_rd 10 (M 0 6) p1).bind (fun v4 =>
  (some (v4 + r2))))))
noncomputable def sM_weighs (M : jm_M) (p1 : Int32) : Option (Int32) :=
  (jm_rd 10 (M 0 6) p1).bind (fun v1 =>
  (jm_rd 10 (M 0 9) p1).bind (fun v2 =>
  (sM_bits v2).bind (fun r3 =>
  (jm_rd 10 (M 0 5) p1).bind (fun v4 =>
  (if v4 = 1 then
  (sM_asNovel M p1).bind (fun r6 =>
  (some (r6 + 2)))
  else
  (if v4 = 2 then
  (some (2 * v1))
  else
  (if v4 = 3 then
  (if r3 = 0 then
  (some (v1 + 5))
  else
  (some (v1 + r3)))
  else
  (if v4 = 4 then
  (sM_asNovel M p1).bind (fun r11 =>
  (some ((r11 + 2) + r3)))
  else
  (if v4 = 5 then
  (jm_rd 10 (M 0 10) p1).bind (fun v13 =>
  (some (v1 + v13)))
  else
  (if v4 = 6 then
  Option.bind (α := Int32) ((if r3 = 0 then
  (some (v1 + 5))
  else
  (some (v1 + r3)))) (fun e15 =>
  (jm_rm (M 0 0 15) 2).bind (fun v17 =>
  (if v17 = 1 then
  (some (e15 + 3))
  else
  (some (e15 + 0)))))
  else
  (if v4 = 7 then
  (sM_asNovel M p1).bind (fun r20 =>
  (if 10 ≤ ((r20 + 2) + r3) then
  (sM_asNovel M p1).bind (fun r22 =>
  (some ((r22 + 2) + r3)))
  else
  (some 10)))
  else
  (sM_asNovel M p1).bind (fun r23 =>
  (some r23)))))))))))))
noncomputable def sM_price (M : jm_M) (p1 : Int32) : Option (Int32) :=
  (jm_rd 10 (M 0 6) p1).bind (fun v1 =>
  (jm_rd 10 (M 0 5) p1).bind (fun v2 =>
  (if v2 = 1 then
  (some 2)
  else
  (if v2 = 2 then
  (some ((3 * v1) + 3))
  else
  (if v2 = 3 then
  (some 1)
  else
  (if v2 = 4 then
  (some (v1 + 2))
  else
  (if v2 = 5 then
  (if 1 ≤ v1 then
  (some ((3 * v1) - 2))
  else
  (some 0))
  else
  (if v2 = 6 then
  (some 5)
  else
  (if v2 = 7 then
  (some 0)
  else
  (some (v1 + 1)))))))))))
noncomputable def sM_byStep (M : jm_M) (p1 : Int32) (p2 : Int32) (p3 : Int32) : Option (Int32) :=
  (jm_rd 6 (M 0 13) p1).bind (fun v1 =>
  (jm_rd 6 (M 0 12) p1).bind (fun v2 =>
  (if v2 = 0 then
  (some (p2 + v1))
  else
  (if v2 = 1 then
  (if p2 ≤ v1 then
  (some 0)
  else
  (some (p2 - v1)))
  else
  (if v2 = 2 then
  (if v1 ≤ p2 then
  (some v1)
  else
  (some p2))
  else
  (if v2 = 3 then
  (if v1 ≤ p2 then
  (some p2)
  else
  (some 0))
  else
  (if v2 = 4 then
  (if p3 = 2 then
  (some (2 * p2))
  else
  (some p2))
  else
  (if v2 = 5 then
  (if p3 = 0 then
  (some 0)
  else
  (some p2))
  else
  (if v2 = 6 then
  (jm_dv p2 2).bind (fun v15 =>
  (some v15))
  else
  (jm_rm (M 0 0 15) 2).bind (fun v16 =>
  (if v16 = 1 then
  (some (p2 + 1))
  else
  (some p2))))))))))))
noncomputable def sM_comesTo_L33 (M : jm_M) (x3 : Int32) (s5 : Int32 × Int32) : Option ((Int32 × Int32) ⊕ (Int32)) :=
  (if (M 0 0 16) ≤ s5.2 then
  (some (.inr s5.1))
  else
  (sM_byStep M s5.2 s5.1 x3).bind (fun r7 =>
  (some (.inl (r7, s5.2 + 1)))))
noncomputable def sM_comesTo (M : jm_M) (p1 : Int32) (p2 : Int32) (p3 : Int32) : Option (Int32) :=
  (jm_rd 10 (M 0 9) p1).bind (fun v1 =>
  (jm_rd 10 (M 0 9) p1).bind (fun v2 =>
  (some ((((v1 : Int32) >>> ((p2 : Int32) &&& 31)) &&& 1) + (((v2 : Int32) >>> ((p3 : Int32) &&& 31)) &&& 1))).bind (fun x3 =>
  (sM_weighs M p1).bind (fun r4 =>
  Option.bind (jm_loop (sM_comesTo_L33 M x3) jm_N (r4, 0)) (fun e8 =>
  (some e8))))))
noncomputable def sM_isHeld (M : jm_M) (p1 : Int32) (p2 : Int32) (p3 : Int32) : Option (Int32) :=
  (jm_rd 10 (M 0 8) p1).bind (fun v1 =>
  (if v1 = p2 then
  (some 1)
  else
  (jm_rd 10 (M 0 8) p1).bind (fun v3 =>
  (if v3 = p3 then
  (some 1)
  else
  (some 0)))))
noncomputable def sM_overWith_L19 (M : jm_M) (p1 : Int32) (p2 : Int32) (p3 : Int32) (s4 : Int32 × Int32) : Option ((Int32 × Int32) ⊕ (Int32)) :=
  (if (M 0 0 14) ≤ s4.2 then
  (some (.inr s4.1))
  else
  (sM_isHeld M s4.2 p1 p2).bind (fun r6 =>
  (if r6 = 0 then
  (sM_has p3 s4.2).bind (fun r8 =>
  (if r8 = 0 then
  (some (s4.1 + 0)).bind (fun x10 =>
  (some (.inl (x10, s4.2 + 1))))
  else
  (sM_comesTo M s4.2 p1 p2).bind (fun r11 =>
  (some (s4.1 + r11)).bind (fun x12 =>
  (some (.inl (x12, s4.2 + 1)))))))
  else
  (sM_comesTo M s4.2 p1 p2).bind (fun r13 =>
  (some (s4.1 + r13)).bind (fun x14 =>
  (some (.inl (x14, s4.2 + 1))))))))
noncomputable def sM_overWith (M : jm_M) (p1 : Int32) (p2 : Int32) (p3 : Int32) : Option (Int32) :=
  (jm_rd 6 (M 0 2) p1).bind (fun v1 =>
  (jm_rd 6 (M 0 2) p2).bind (fun v2 =>
  (some ((-v1) - v2)).bind (fun x3 =>
  Option.bind (jm_loop (sM_overWith_L19 M p1 p2 p3) jm_N (x3, 0)) (fun e15 =>
  (some e15)))))
noncomputable def sM_overNow (M : jm_M) (p1 : Int32) (p2 : Int32) : Option (Int32) :=
  (sM_overWith M p1 p2 0).bind (fun r1 =>
  (some r1))
noncomputable def sM_comesDown (M : jm_M) (p1 : Int32) (p2 : Int32) : Option (Int32) :=
  (sM_overNow M p1 p2).bind (fun r1 =>
  (if r1 < 0 then
  (some 0)
  else
  (some 1)))
noncomputable def sM_compares_L2 (M : jm_M) (p1 : Int32) (p2 : Int32) (s1 : Int32) : Option ((Int32) ⊕ (Unit ⊕ (Int32))) :=
  (if 4 ≤ s1 then
  (some (.inr (.inl ())))
  else
  (jm_rd 10 (M 0 10) p1).bind (fun v3 =>
  Option.bind (α := Int32) ((if v3 ≤ s1 then
  (some (-1))
  else
  (jm_rd 40 (M 0 11) ((4 * p1) + s1)).bind (fun v6 =>
  (some v6)))) (fun e4 =>
  (jm_rd 10 (M 0 10) p2).bind (fun v7 =>
  Option.bind (α := Int32) ((if v7 ≤ s1 then
  (some (-1))
  else
  (jm_rd 40 (M 0 11) ((4 * p2) + s1)).bind (fun v10 =>
  (some v10)))) (fun e8 =>
  (if e4 = e8 then
  (some (.inl (s1 + 1)))
  else
  (some (.inr (.inr (e4 - e8))))))))))
noncomputable def sM_compares (M : jm_M) (p1 : Int32) (p2 : Int32) : Option (Int32) :=
  Option.bind (jm_loop (sM_compares_L2 M p1 p2) jm_N 0) (Sum.elim (fun e12 =>
  (some 0)) some)
noncomputable def sM_rankOf_L4 (M : jm_M) (p1 : Int32) (s1 : Int32 × Int32) : Option ((Int32 × Int32) ⊕ (Int32)) :=
  (if (M 0 0 14) ≤ s1.2 then
  (some (.inr s1.1))
  else
  (sM_compares M s1.2 p1).bind (fun r3 =>
  (if 0 ≤ r3 then
  (some (s1.1 + 0)).bind (fun x5 =>
  (some (.inl (x5, s1.2 + 1))))
  else
  (some (s1.1 + 1)).bind (fun x6 =>
  (some (.inl (x6, s1.2 + 1)))))))
noncomputable def sM_rankOf (M : jm_M) (p1 : Int32) : Option (Int32) :=
  Option.bind (jm_loop (sM_rankOf_L4 M p1) jm_N (0, 0)) (fun e7 =>
  (some e7))
noncomputable def sM_ofRank_L2 (M : jm_M) (p1 : Int32) (s1 : Int32) : Option ((Int32) ⊕ (Unit ⊕ (Int32))) :=
  (if (M 0 0 14) ≤ s1 then
  (some (.inr (.inl ())))
  else
  (sM_rankOf M s1).bind (fun r3 =>
  (if r3 = p1 then
  (some (.inr (.inr s1)))
  else
  (some (.inl (s1 + 1))))))
noncomputable def sM_ofRank (M : jm_M) (p1 : Int32) : Option (Int32) :=
  Option.bind (jm_loop (sM_ofRank_L2 M p1) jm_N 0) (Sum.elim (fun e5 =>
  (some (-9))) some)
noncomputable def sM_toRead_L5 (M : jm_M) (p1 : Int32) (s1 : Int32 × Int32) : Option ((Int32 × Int32) ⊕ (Int32)) :=
  (if (M 0 0 14) ≤ s1.2 then
  (some (.inr s1.1))
  else
  (jm_rd 10 (M 0 8) s1.2).bind (fun v3 =>
  (if v3 = p1 then
  (jm_rd 10 (M 0 9) s1.2).bind (fun v5 =>
  (sM_has v5 p1).bind (fun r6 =>
  (if r6 = 0 then
  (if s1.1 < 0 then
  (some (.inl (s1.2, s1.2 + 1)))
  else
  (sM_compares M s1.2 s1.1).bind (fun r9 =>
  (if 0 ≤ r9 then
  (some (.inl (s1.1, s1.2 + 1)))
  else
  (some (.inl (s1.2, s1.2 + 1))))))
  else
  (some (.inl (s1.1, s1.2 + 1))))))
  else
  (some (.inl (s1.1, s1.2 + 1))))))
noncomputable def sM_toRead (M : jm_M) (p1 : Int32) : Option (Int32) :=
  Option.bind (jm_loop (sM_toRead_L5 M p1) jm_N ((-9), 0)) (fun e11 =>
  (some e11))
noncomputable def sM_goesPerson (M : jm_M) (p1 : Int32) : Option (jm_M) :=
  (jm_rd 6 (M 0 3) p1).bind (fun v1 =>
  (jm_rm (M 0 0 15) (v1 + 2)).bind (fun v2 =>
  Option.bind (α := jm_M) ((if v2 = 0 then
  (jm_rd 6 (M 0 2) p1).bind (fun v5 =>
  (if 99 ≤ v5 then
  (some M)
  else
  (jm_rd 6 (M 0 2) p1).bind (fun v7 =>
  (jm_wa 6 M 0 2 p1 (v7 + 1)).bind (fun M8 =>
  (some M8)))))
  else
  (some M))) (fun e3 =>
  Option.bind (α := Int32) ((if (e3 0 0 17) = 0 then
  (sM_toRead e3 p1).bind (fun r11 =>
  (some r11))
  else
  (some (-9)))) (fun e9 =>
  (if 0 ≤ e9 then
  (jm_rd 10 (e3 0 9) e9).bind (fun v13 =>
  (jm_wa 10 e3 0 9 e9 (v13 ||| ((1 : Int32) <<< ((p1 : Int32) &&& 31)))).bind (fun M14 =>
  (jm_rd 10 (M14 0 7) e9).bind (fun v15 =>
  (jm_wa 10 M14 0 8 e9 v15).bind (fun M16 =>
  (some M16)))))
  else
  (some e3))))))
noncomputable def sM_goesWeek_L12  (s2 : Int32 × jm_M) : Option ((Int32 × jm_M) ⊕ (jm_M)) :=
  (if (s2.2 0 0 13) ≤ s2.1 then
  (some (.inr s2.2))
  else
  (sM_goesPerson s2.2 s2.1).bind (fun r4 =>
  (some (.inl (s2.1 + 1, r4)))))
noncomputable def sM_goesWeek (M : jm_M) : Option (jm_M) :=
  (jm_wf M 0 15 ((M 0 0 15) + 1)).bind (fun M1 =>
  Option.bind (jm_loop (sM_goesWeek_L12) jm_N (0, M1)) (fun e5 =>
  (some e5)))
noncomputable def sM_goes_L2 (p1 : Int32) (s1 : Int32 × jm_M) : Option ((Int32 × jm_M) ⊕ (jm_M)) :=
  (if p1 ≤ s1.1 then
  (some (.inr s1.2))
  else
  (sM_goesWeek s1.2).bind (fun r3 =>
  (some (.inl (s1.1 + 1, r3)))))
noncomputable def sM_goes (M : jm_M) (p1 : Int32) : Option (jm_M) :=
  Option.bind (jm_loop (sM_goes_L2 p1) jm_N (0, M)) (fun e4 =>
  (some e4))
noncomputable def sM_feed (M : jm_M) (p1 : Int32) : Option (Int32 × jm_M) :=
  (sM_bound p1 0 255).bind (fun r1 =>
  Option.bind (α := Int32) ((if r1 = 0 then
  (if (M 0 0 26) = 96 then
  (some (-6))
  else
  (some r1))
  else
  (some r1))) (fun e2 =>
  (if e2 = 0 then
  (jm_wa 96 M 0 19 (M 0 0 26) p1).bind (fun M6 =>
  (jm_wf M6 0 26 ((M6 0 0 26) + 1)).bind (fun M7 =>
  (some (M7 0 0 26, M7))))
  else
  (sM_no M e2).bind (fun r8 =>
  (some (r8.1, r8.2))))))
noncomputable def sM_sign (M : jm_M) : Option (Int32) :=
  (if (M 0 0 26) ≤ (M 0 0 27) then
  (some (-1))
  else
  (jm_rd 96 (M 0 19) (M 0 0 27)).bind (fun v2 =>
  (some v2)))
noncomputable def sM_number_L4 (p1 : Int32) (s1 : Int32 × Int32 × jm_M) : Option ((Int32 × Int32 × jm_M) ⊕ ((Int32 × jm_M) ⊕ (Int32 × jm_M))) :=
  (if p1 ≤ s1.2.1 then
  (some (.inr (.inl (s1.1, s1.2.2))))
  else
  (sM_sign s1.2.2).bind (fun r3 =>
  (sM_isIn r3 48 57).bind (fun r4 =>
  (if r4 = 0 then
  (some (.inr (.inr ((-9), s1.2.2))))
  else
  (sM_sign s1.2.2).bind (fun r6 =>
  (some (((10 * s1.1) + r6) - 48)).bind (fun x7 =>
  (jm_wf s1.2.2 0 27 ((s1.2.2 0 0 27) + 1)).bind (fun M8 =>
  (some (.inl (x7, s1.2.1 + 1, M8))))))))))
noncomputable def sM_number (M : jm_M) (p1 : Int32) : Option (Int32 × jm_M) :=
  Option.bind (jm_loop (sM_number_L4 p1) jm_N (0, 0, M)) (Sum.elim (fun e9 =>
  (some (e9.1, e9.2))) some)
noncomputable def sM_readsDigits (M : jm_M) (p1 : Int32) : Option (Int32 × jm_M) :=
  (sM_number M p1).bind (fun r1 =>
  (jm_wa 147 r1.2 0 22 (M 0 0 29) r1.1).bind (fun M2 =>
  (jm_wf M2 0 29 ((M2 0 0 29) + 1)).bind (fun M3 =>
  (jm_rd 147 (M3 0 22) ((M3 0 0 29) - 1)).bind (fun v4 =>
  (if v4 < 0 then
  (some (0, M3))
  else
  (some (1, M3)))))))
noncomputable def sM_readsTitle_L13  (s2 : jm_M) : Option ((jm_M) ⊕ (jm_M)) :=
  (sM_sign s2).bind (fun r3 =>
  (sM_isIn r3 97 122).bind (fun r4 =>
  (if r4 = 0 then
  (some (.inr s2))
  else
  (jm_wf s2 0 27 ((s2 0 0 27) + 1)).bind (fun M6 =>
  (some (.inl M6))))))
noncomputable def sM_readsTitle (M : jm_M) : Option (Int32 × jm_M) :=
  (jm_wa 49 M 0 23 (M 0 0 28) (M 0 0 27)).bind (fun M1 =>
  Option.bind (jm_loop (sM_readsTitle_L13) jm_N M1) (fun e7 =>
  (jm_rd 49 (e7 0 23) (e7 0 0 28)).bind (fun v8 =>
  (jm_wa 49 e7 0 24 (e7 0 0 28) ((e7 0 0 27) - v8)).bind (fun M9 =>
  (jm_rd 49 (M9 0 24) (M9 0 0 28)).bind (fun v10 =>
  (if v10 ≤ 0 then
  (some (0, M9))
  else
  (some (1, M9))))))))
noncomputable def sM_stepOf (p1 : Int32) : Option (Int32) :=
  (if p1 = 97 then
  (some 0)
  else
  (if p1 = 98 then
  (some (-9))
  else
  (if p1 = 99 then
  (some 2)
  else
  (if p1 = 100 then
  (some 4)
  else
  (if p1 = 101 then
  (some (-9))
  else
  (if p1 = 102 then
  (some (-9))
  else
  (if p1 = 103 then
  (some (-9))
  else
  (if p1 = 104 then
  (some 6)
  else
  (if p1 = 105 then
  (some (-9))
  else
  (if p1 = 106 then
  (some (-9))
  else
  (if p1 = 107 then
  (some (-9))
  else
  (if p1 = 108 then
  (some 1)
  else
  (if p1 = 109 then
  (some (-9))
  else
  (if p1 = 110 then
  (some (-9))
  else
  (if p1 = 111 then
  (some 7)
  else
  (if p1 = 112 then
  (some (-9))
  else
  (if p1 = 113 then
  (some (-9))
  else
  (if p1 = 114 then
  (some (-9))
  else
  (if p1 = 115 then
  (some (-9))
  else
  (if p1 = 116 then
  (some 3)
  else
  (if p1 = 117 then
  (some 5)
  else
  (some (-9)))))))))))))))))))))))
noncomputable def sM_readsSteps_L15  (s2 : Int32 × jm_M) : Option ((Int32 × jm_M) ⊕ (Int32 × jm_M)) :=
  (sM_sign s2.2).bind (fun r3 =>
  (sM_stepOf r3).bind (fun r4 =>
  (if r4 < 0 then
  (some (.inr (s2.1, s2.2)))
  else
  (if s2.1 < 0 then
  (some (.inr (s2.1, s2.2)))
  else
  (sM_sign s2.2).bind (fun r7 =>
  (sM_stepOf r7).bind (fun r8 =>
  (jm_wa 97 s2.2 0 25 (s2.2 0 0 30) r8).bind (fun M9 =>
  (jm_wf M9 0 27 ((M9 0 0 27) + 1)).bind (fun M10 =>
  (jm_rd 97 (M10 0 25) (M10 0 0 30)).bind (fun v11 =>
  Option.bind (α := Int32 × jm_M) ((if 4 ≤ v11 then
  (some (0, M10))
  else
  (sM_number M10 2).bind (fun r14 =>
  (some (r14.1, r14.2))))) (fun e12 =>
  (jm_wa 97 e12.2 0 26 (e12.2 0 0 30) e12.1).bind (fun M15 =>
  (jm_wf M15 0 30 ((M15 0 0 30) + 1)).bind (fun M16 =>
  (some (.inl (e12.1, M16)))))))))))))))
noncomputable def sM_readsSteps (M : jm_M) : Option (Int32 × jm_M) :=
  (jm_wa 49 M 0 23 (M 0 0 28) (M 0 0 30)).bind (fun M1 =>
  Option.bind (jm_loop (sM_readsSteps_L15) jm_N (0, M1)) (fun e17 =>
  (jm_rd 49 (e17.2 0 23) (e17.2 0 0 28)).bind (fun v18 =>
  (jm_wa 49 e17.2 0 24 (e17.2 0 0 28) ((e17.2 0 0 30) - v18)).bind (fun M19 =>
  (if e17.1 < 0 then
  (some (0, M19))
  else
  (some (1, M19)))))))
noncomputable def sM_readsAll (M : jm_M) (p1 : Int32) : Option (Int32 × jm_M) :=
  (if p1 = 98 then
  (sM_readsDigits M 1).bind (fun r2 =>
  (if r2.1 = 0 then
  (some (0, r2.2))
  else
  (sM_readsDigits r2.2 1).bind (fun r4 =>
  (if r4.1 = 0 then
  (some (0, r4.2))
  else
  (sM_readsDigits r4.2 1).bind (fun r6 =>
  (if r6.1 = 0 then
  (some (0, r6.2))
  else
  (sM_readsTitle r6.2).bind (fun r8 =>
  (if r8.1 = 0 then
  (some (0, r8.2))
  else
  (some (1, r8.2))))))))))
  else
  (if p1 = 104 then
  (sM_readsDigits M 1).bind (fun r11 =>
  (if r11.1 = 0 then
  (some (0, r11.2))
  else
  (sM_readsTitle r11.2).bind (fun r13 =>
  (if r13.1 = 0 then
  (some (0, r13.2))
  else
  (some (1, r13.2))))))
  else
  (if p1 = 108 then
  (sM_readsSteps M).bind (fun r16 =>
  (jm_bz r16.1).bind (fun x17 => some (x17, r16.2)))
  else
  (if p1 = 112 then
  (sM_readsDigits M 2).bind (fun r20 =>
  (if r20.1 = 0 then
  (some (0, r20.2))
  else
  (sM_readsDigits r20.2 1).bind (fun r22 =>
  (if r22.1 = 0 then
  (some (0, r22.2))
  else
  (sM_readsDigits r22.2 2).bind (fun r24 =>
  (if r24.1 = 0 then
  (some (0, r24.2))
  else
  (some (1, r24.2))))))))
  else
  (if p1 = 114 then
  (sM_readsDigits M 1).bind (fun r27 =>
  (if r27.1 = 0 then
  (some (0, r27.2))
  else
  (sM_readsTitle r27.2).bind (fun r29 =>
  (if r29.1 = 0 then
  (some (0, r29.2))
  else
  (some (1, r29.2))))))
  else
  (sM_readsDigits M 2).bind (fun r31 =>
  (jm_bz r31.1).bind (fun x32 => some (x32, r31.2))))))))
noncomputable def sM_statement (M : jm_M) : Option (Int32 × jm_M) :=
  (sM_sign M).bind (fun r1 =>
  (if r1 = 112 then
  (jm_wa 49 M 0 20 (M 0 0 28) r1).bind (fun M3 =>
  (jm_wa 49 M3 0 21 (M3 0 0 28) (M3 0 0 27)).bind (fun M4 =>
  (jm_wf M4 0 29 (3 * (M4 0 0 28))).bind (fun M5 =>
  (jm_wf M5 0 27 ((M5 0 0 27) + 1)).bind (fun M6 =>
  (sM_readsAll M6 r1).bind (fun r7 =>
  (if r7.1 = 0 then
  (some (0, r7.2))
  else
  (sM_sign r7.2).bind (fun r9 =>
  (if r9 = 59 then
  (jm_wf r7.2 0 27 ((r7.2 0 0 27) + 1)).bind (fun M11 =>
  (some (1, M11)))
  else
  (some (0, r7.2))))))))))
  else
  (if r1 = 98 then
  (jm_wa 49 M 0 20 (M 0 0 28) r1).bind (fun M13 =>
  (jm_wa 49 M13 0 21 (M13 0 0 28) (M13 0 0 27)).bind (fun M14 =>
  (jm_wf M14 0 29 (3 * (M14 0 0 28))).bind (fun M15 =>
  (jm_wf M15 0 27 ((M15 0 0 27) + 1)).bind (fun M16 =>
  (sM_readsAll M16 r1).bind (fun r17 =>
  (if r17.1 = 0 then
  (some (0, r17.2))
  else
  (sM_sign r17.2).bind (fun r19 =>
  (if r19 = 59 then
  (jm_wf r17.2 0 27 ((r17.2 0 0 27) + 1)).bind (fun M21 =>
  (some (1, M21)))
  else
  (some (0, r17.2))))))))))
  else
  (if r1 = 114 then
  (jm_wa 49 M 0 20 (M 0 0 28) r1).bind (fun M23 =>
  (jm_wa 49 M23 0 21 (M23 0 0 28) (M23 0 0 27)).bind (fun M24 =>
  (jm_wf M24 0 29 (3 * (M24 0 0 28))).bind (fun M25 =>
  (jm_wf M25 0 27 ((M25 0 0 27) + 1)).bind (fun M26 =>
  (sM_readsAll M26 r1).bind (fun r27 =>
  (if r27.1 = 0 then
  (some (0, r27.2))
  else
  (sM_sign r27.2).bind (fun r29 =>
  (if r29 = 59 then
  (jm_wf r27.2 0 27 ((r27.2 0 0 27) + 1)).bind (fun M31 =>
  (some (1, M31)))
  else
  (some (0, r27.2))))))))))
  else
  (if r1 = 104 then
  (jm_wa 49 M 0 20 (M 0 0 28) r1).bind (fun M33 =>
  (jm_wa 49 M33 0 21 (M33 0 0 28) (M33 0 0 27)).bind (fun M34 =>
  (jm_wf M34 0 29 (3 * (M34 0 0 28))).bind (fun M35 =>
  (jm_wf M35 0 27 ((M35 0 0 27) + 1)).bind (fun M36 =>
  (sM_readsAll M36 r1).bind (fun r37 =>
  (if r37.1 = 0 then
  (some (0, r37.2))
  else
  (sM_sign r37.2).bind (fun r39 =>
  (if r39 = 59 then
  (jm_wf r37.2 0 27 ((r37.2 0 0 27) + 1)).bind (fun M41 =>
  (some (1, M41)))
  else
  (some (0, r37.2))))))))))
  else
  (if r1 = 108 then
  (jm_wa 49 M 0 20 (M 0 0 28) r1).bind (fun M43 =>
  (jm_wa 49 M43 0 21 (M43 0 0 28) (M43 0 0 27)).bind (fun M44 =>
  (jm_wf M44 0 29 (3 * (M44 0 0 28))).bind (fun M45 =>
  (jm_wf M45 0 27 ((M45 0 0 27) + 1)).bind (fun M46 =>
  (sM_readsAll M46 r1).bind (fun r47 =>
  (if r47.1 = 0 then
  (some (0, r47.2))
  else
  (sM_sign r47.2).bind (fun r49 =>
  (if r49 = 59 then
  (jm_wf r47.2 0 27 ((r47.2 0 0 27) + 1)).bind (fun M51 =>
  (some (1, M51)))
  else
  (some (0, r47.2))))))))))
  else
  (if r1 = 119 then
  (jm_wa 49 M 0 20 (M 0 0 28) r1).bind (fun M53 =>
  (jm_wa 49 M53 0 21 (M53 0 0 28) (M53 0 0 27)).bind (fun M54 =>
  (jm_wf M54 0 29 (3 * (M54 0 0 28))).bind (fun M55 =>
  (jm_wf M55 0 27 ((M55 0 0 27) + 1)).bind (fun M56 =>
  (sM_readsAll M56 r1).bind (fun r57 =>
  (if r57.1 = 0 then
  (some (0, r57.2))
  else
  (sM_sign r57.2).bind (fun r59 =>
  (if r59 = 59 then
  (jm_wf r57.2 0 27 ((r57.2 0 0 27) + 1)).bind (fun M61 =>
  (some (1, M61)))
  else
  (some (0, r57.2))))))))))
  else
  (some (0, M)))))))))
noncomputable def sM_isTitled_L20 (p3 : Int32) (M : jm_M) (p1 : Int32) (p2 : Int32) (s4 : Int32 × Int32) : Option ((Int32 × Int32) ⊕ (Int32)) :=
  (if p3 ≤ s4.2 then
  (some (.inr s4.1))
  else
  (if s4.1 = 0 then
  (some (.inr s4.1))
  else
  (jm_rd 40 (M 0 11) ((4 * p1) + s4.2)).bind (fun v7 =>
  (jm_rd 96 (M 0 19) (p2 + s4.2)).bind (fun v8 =>
  (if v7 = (v8 - 97) then
  (some (.inl (1, s4.2 + 1)))
  else
  (some (.inl (0, s4.2 + 1))))))))
noncomputable def sM_isTitled (M : jm_M) (p1 : Int32) (p2 : Int32) (p3 : Int32) : Option (Int32) :=
  (jm_rd 10 (M 0 10) p1).bind (fun v1 =>
  Option.bind (α := Int32) ((if v1 = p3 then
  (some 1)
  else
  (some 0))) (fun e2 =>
  Option.bind (jm_loop (sM_isTitled_L20 p3 M p1 p2) jm_N (e2, 0)) (fun e10 =>
  (jm_bz e10).bind (fun x11 => some x11))))
noncomputable def sM_titledBy_L2 (M : jm_M) (p1 : Int32) (s1 : Int32) : Option ((Int32) ⊕ (Unit ⊕ (Int32))) :=
  (if (M 0 0 14) ≤ s1 then
  (some (.inr (.inl ())))
  else
  (jm_rd 49 (M 0 23) p1).bind (fun v3 =>
  (jm_rd 49 (M 0 24) p1).bind (fun v4 =>
  (sM_isTitled M s1 v3 v4).bind (fun r5 =>
  (if r5 = 0 then
  (some (.inl (s1 + 1)))
  else
  (some (.inr (.inr s1))))))))
noncomputable def sM_titledBy (M : jm_M) (p1 : Int32) : Option (Int32) :=
  Option.bind (jm_loop (sM_titledBy_L2 M p1) jm_N 0) (Sum.elim (fun e7 =>
  (some (-9))) some)
noncomputable def sM_isMore (M : jm_M) (p1 : Int32) (p2 : Int32) (p3 : Int32) : Option (jm_M) :=
  (jm_wa 6 M 0 2 (M 0 0 13) p1).bind (fun M1 =>
  (jm_wa 6 M1 0 3 (M1 0 0 13) p2).bind (fun M2 =>
  (jm_wa 6 M2 0 4 (M2 0 0 13) p3).bind (fun M3 =>
  (jm_wf M3 0 13 ((M3 0 0 13) + 1)).bind (fun M4 =>
  (some M4)))))
noncomputable def sM_isBrought (M : jm_M) (p1 : Int32) (p2 : Int32) (p3 : Int32) : Option (jm_M) :=
  (jm_wa 10 M 0 5 (M 0 0 14) p1).bind (fun M1 =>
  (jm_wa 10 M1 0 6 (M1 0 0 14) p2).bind (fun M2 =>
  (jm_wa 10 M2 0 7 (M2 0 0 14) p3).bind (fun M3 =>
  (jm_wa 10 M3 0 8 (M3 0 0 14) p3).bind (fun M4 =>
  (jm_wa 10 M4 0 9 (M4 0 0 14) 0).bind (fun M5 =>
  (jm_wa 10 M5 0 10 (M5 0 0 14) 0).bind (fun M6 =>
  (jm_wf M6 0 14 ((M6 0 0 14) + 1)).bind (fun M7 =>
  (some M7))))))))
noncomputable def sM_isTitledMore (M : jm_M) (p1 : Int32) : Option (jm_M) :=
  (some ((M 0 0 14) - 1)).bind (fun x1 =>
  (jm_rd 10 (M 0 10) x1).bind (fun v2 =>
  (jm_wa 40 M 0 11 ((4 * x1) + v2) p1).bind (fun M3 =>
  (jm_rd 10 (M3 0 10) x1).bind (fun v4 =>
  (jm_wa 10 M3 0 10 x1 (v4 + 1)).bind (fun M5 =>
  (some M5))))))
noncomputable def sM_comesPerson (M : jm_M) (p1 : Int32) : Option (Int32 × jm_M) :=
  (if (M 0 0 13) = 6 then
  (some (0, M))
  else
  (jm_rd 147 (M 0 22) p1).bind (fun v2 =>
  (jm_rd 147 (M 0 22) (p1 + 1)).bind (fun v3 =>
  (jm_rd 147 (M 0 22) (p1 + 2)).bind (fun v4 =>
  (sM_isMore M v2 v3 v4).bind (fun r5 =>
  (some (1, r5)))))))
noncomputable def sM_comesBook_L83 (p1 : Int32) (s15 : Int32 × jm_M) : Option ((Int32 × jm_M) ⊕ (jm_M)) :=
  (jm_rd 49 (s15.2 0 24) p1).bind (fun v16 =>
  (if v16 ≤ s15.1 then
  (some (.inr s15.2))
  else
  (jm_rd 49 (s15.2 0 23) p1).bind (fun v18 =>
  (jm_rd 96 (s15.2 0 19) (v18 + s15.1)).bind (fun v19 =>
  (sM_isTitledMore s15.2 (v19 - 97)).bind (fun r20 =>
  (some (.inl (s15.1 + 1, r20))))))))
noncomputable def sM_comesBook (M : jm_M) (p1 : Int32) (p2 : Int32) : Option (Int32 × jm_M) :=
  (jm_rd 147 (M 0 22) p2).bind (fun v1 =>
  (if 8 ≤ v1 then
  (some (0, M))
  else
  (jm_rd 147 (M 0 22) (p2 + 2)).bind (fun v3 =>
  (sM_isPlace M v3).bind (fun r4 =>
  (if r4 = 0 then
  (some (0, M))
  else
  (jm_rd 49 (M 0 24) p1).bind (fun v6 =>
  (if 4 < v6 then
  (some (0, M))
  else
  (sM_titledBy M p1).bind (fun r8 =>
  (if 0 ≤ r8 then
  (some (0, M))
  else
  (if (M 0 0 14) = 10 then
  (some (0, M))
  else
  (jm_rd 147 (M 0 22) p2).bind (fun v11 =>
  (jm_rd 147 (M 0 22) (p2 + 1)).bind (fun v12 =>
  (jm_rd 147 (M 0 22) (p2 + 2)).bind (fun v13 =>
  (sM_isBrought M v11 v12 v13).bind (fun r14 =>
  Option.bind (jm_loop (sM_comesBook_L83 p1) jm_N (0, r14)) (fun e21 =>
  (some (1, e21)))))))))))))))))
noncomputable def sM_comesReading (M : jm_M) (p1 : Int32) (p2 : Int32) : Option (Int32 × jm_M) :=
  (sM_titledBy M p1).bind (fun r1 =>
  (jm_rd 147 (M 0 22) p2).bind (fun v2 =>
  (sM_isPerson M v2).bind (fun r3 =>
  (if r3 = 0 then
  (some (0, M))
  else
  (if 0 ≤ r1 then
  (jm_rd 10 (M 0 9) r1).bind (fun v6 =>
  (jm_rd 147 (M 0 22) p2).bind (fun v7 =>
  (jm_wa 10 M 0 9 r1 (v6 ||| ((1 : Int32) <<< ((v7 : Int32) &&& 31)))).bind (fun M8 =>
  (some (1, M8)))))
  else
  (some (0, M)))))))
noncomputable def sM_comesHolding (M : jm_M) (p1 : Int32) (p2 : Int32) : Option (Int32 × jm_M) :=
  (sM_titledBy M p1).bind (fun r1 =>
  (jm_rd 147 (M 0 22) p2).bind (fun v2 =>
  (sM_isPlace M v2).bind (fun r3 =>
  (if r3 = 0 then
  (some (0, M))
  else
  (if 0 ≤ r1 then
  (jm_rd 147 (M 0 22) p2).bind (fun v6 =>
  (jm_wa 10 M 0 8 r1 v6).bind (fun M7 =>
  (some (1, M7))))
  else
  (some (0, M)))))))
noncomputable def sM_comesLaw_L25 (p1 : Int32) (s5 : Int32 × jm_M) : Option ((Int32 × jm_M) ⊕ (jm_M)) :=
  (if (s5.2 0 0 16) ≤ s5.1 then
  (some (.inr s5.2))
  else
  (jm_rd 49 (s5.2 0 23) p1).bind (fun v7 =>
  (jm_rd 97 (s5.2 0 25) (v7 + s5.1)).bind (fun v8 =>
  (jm_wa 6 s5.2 0 12 s5.1 v8).bind (fun M9 =>
  (jm_rd 49 (M9 0 23) p1).bind (fun v10 =>
  (jm_rd 97 (M9 0 26) (v10 + s5.1)).bind (fun v11 =>
  (jm_wa 6 M9 0 13 s5.1 v11).bind (fun M12 =>
  (some (.inl (s5.1 + 1, M12))))))))))
noncomputable def sM_comesLaw (M : jm_M) (p1 : Int32) : Option (Int32 × jm_M) :=
  (jm_rd 49 (M 0 24) p1).bind (fun v1 =>
  (if v1 ≤ 6 then
  (jm_rd 49 (M 0 24) p1).bind (fun v3 =>
  (jm_wf M 0 16 v3).bind (fun M4 =>
  Option.bind (jm_loop (sM_comesLaw_L25 p1) jm_N (0, M4)) (fun e13 =>
  (some (1, e13)))))
  else
  (some (0, M))))
noncomputable def sM_comesWeeks (M : jm_M) (p1 : Int32) : Option (Int32 × jm_M) :=
  (sM_isIn p1 1 60).bind (fun r1 =>
  (if r1 = 0 then
  (some (0, M))
  else
  (if ((M 0 0 15) + p1) ≤ 999 then
  (sM_goes M p1).bind (fun r4 =>
  (some (1, r4)))
  else
  (some (0, M)))))
noncomputable def sM_comesTold (M : jm_M) (p1 : Int32) : Option (Int32 × jm_M) :=
  (some (3 * p1)).bind (fun x1 =>
  (jm_rd 49 (M 0 20) p1).bind (fun v2 =>
  (if v2 = 98 then
  (sM_comesBook M p1 x1).bind (fun r4 =>
  (jm_bz r4.1).bind (fun x5 => some (x5, r4.2)))
  else
  (if v2 = 104 then
  (sM_comesHolding M p1 x1).bind (fun r8 =>
  (jm_bz r8.1).bind (fun x9 => some (x9, r8.2)))
  else
  (if v2 = 108 then
  (sM_comesLaw M p1).bind (fun r12 =>
  (jm_bz r12.1).bind (fun x13 => some (x13, r12.2)))
  else
  (if v2 = 112 then
  (sM_comesPerson M x1).bind (fun r16 =>
  (jm_bz r16.1).bind (fun x17 => some (x17, r16.2)))
  else
  (if v2 = 114 then
  (sM_comesReading M p1 x1).bind (fun r20 =>
  (jm_bz r20.1).bind (fun x21 => some (x21, r20.2)))
  else
  (jm_rd 147 (M 0 22) x1).bind (fun v23 =>
  (sM_comesWeeks M v23).bind (fun r24 =>
  (jm_bz r24.1).bind (fun x25 => some (x25, r24.2)))))))))))
noncomputable def sM_passes_L2 (p1 : Nat × Nat) (s1 : Int32 × jm_M) : Option ((Int32 × jm_M) ⊕ (jm_M)) :=
  (jm_len jm_LM p1).bind (fun N2 =>
  (if (nI N2) ≤ s1.1 then
  (some (.inr s1.2))
  else
  Option.bind (α := jm_M) ((if (s1.2 0 0 33) = 0 then
  (jm_rd 1500 (s1.2 0 32) (s1.2 0 0 34)).bind (fun v6 =>
  (jm_len jm_LM p1).bind (fun N7 =>
  (jm_wa N7 s1.2 p1.1 p1.2 s1.1 v6).bind (fun M8 =>
  (some M8))))
  else
  (jm_len jm_LM p1).bind (fun N9 =>
  (jm_rd N9 (s1.2 p1.1 p1.2) s1.1).bind (fun v10 =>
  (jm_wa 1500 s1.2 0 32 (s1.2 0 0 34) v10).bind (fun M11 =>
  (some M11)))))) (fun e4 =>
  (jm_wf e4 0 34 ((e4 0 0 34) + 1)).bind (fun M12 =>
  (some (.inl (s1.1 + 1, M12)))))))
noncomputable def sM_passes (M : jm_M) (p1 : Nat × Nat) : Option (jm_M) :=
  Option.bind (jm_loop (sM_passes_L2 p1) jm_N (0, M)) (fun e13 =>
  (some e13))
noncomputable def sM_passOne (M : jm_M) (p1 : Int32) : Option (Int32 × jm_M) :=
  Option.bind (α := Int32) ((if (M 0 0 33) = 0 then
  (jm_rd 1500 (M 0 32) (M 0 0 34)).bind (fun v3 =>
  (some v3))
  else
  (some p1))) (fun e1 =>
  Option.bind (α := jm_M) ((if (M 0 0 33) = 0 then
  (some M)
  else
  (jm_wa 1500 M 0 32 (M 0 0 34) p1).bind (fun M6 =>
  (some M6)))) (fun e4 =>
  (jm_wf e4 0 34 ((e4 0 0 34) + 1)).bind (fun M7 =>
  (some (e1, M7)))))
noncomputable def sM_passesAll (M : jm_M) (p1 : Int32) (p2 : Int32) : Option (jm_M) :=
  (jm_wf M 0 34 (135 * p1)).bind (fun M1 =>
  (jm_wz M1 0 33 p2).bind (fun M2 =>
  (sM_passes M2 (0, 2)).bind (fun r3 =>
  (sM_passes r3 (0, 3)).bind (fun r4 =>
  (sM_passes r4 (0, 4)).bind (fun r5 =>
  (sM_passes r5 (0, 5)).bind (fun r6 =>
  (sM_passes r6 (0, 6)).bind (fun r7 =>
  (sM_passes r7 (0, 7)).bind (fun r8 =>
  (sM_passes r8 (0, 8)).bind (fun r9 =>
  (sM_passes r9 (0, 9)).bind (fun r10 =>
  (sM_passes r10 (0, 10)).bind (fun r11 =>
  (sM_passes r11 (0, 11)).bind (fun r12 =>
  (sM_passes r12 (0, 12)).bind (fun r13 =>
  (sM_passes r13 (0, 13)).bind (fun r14 =>
  (sM_passOne r14 (r14 0 0 13)).bind (fun r15 =>
  (jm_wf r15.2 0 13 r15.1).bind (fun M16 =>
  (sM_passOne M16 (M16 0 0 14)).bind (fun r17 =>
  (jm_wf r17.2 0 14 r17.1).bind (fun M18 =>
  (sM_passOne M18 (M18 0 0 15)).bind (fun r19 =>
  (jm_wf r19.2 0 15 r19.1).bind (fun M20 =>
  (sM_passOne M20 (M20 0 0 16)).bind (fun r21 =>
  (jm_wf r21.2 0 16 r21.1).bind (fun M22 =>
  (some M22)))))))))))))))))))))))
noncomputable def sM_town_L17  (s4 : Int32 × jm_M) : Option ((Int32 × jm_M) ⊕ (Int32 × jm_M)) :=
  (if s4.1 = 0 then
  (some (.inr (s4.1, s4.2)))
  else
  (if (s4.2 0 0 27) < (s4.2 0 0 26) then
  (sM_statement s4.2).bind (fun r7 =>
  Option.bind (α := Int32) ((if r7.1 = 0 then
  (some 0)
  else
  (some 1))) (fun e8 =>
  (jm_wf r7.2 0 28 ((r7.2 0 0 28) + e8)).bind (fun M10 =>
  (some (.inl (r7.1, M10))))))
  else
  (if (s4.2 0 0 28) = 0 then
  (sM_statement s4.2).bind (fun r12 =>
  Option.bind (α := Int32) ((if r12.1 = 0 then
  (some 0)
  else
  (some 1))) (fun e13 =>
  (jm_wf r12.2 0 28 ((r12.2 0 0 28) + e13)).bind (fun M15 =>
  (some (.inl (r12.1, M15))))))
  else
  (some (.inr (s4.1, s4.2))))))
noncomputable def sM_town_L91  (s20 : Int32 × jm_M) : Option ((Int32 × jm_M) ⊕ (jm_M ⊕ (Int32 × jm_M))) :=
  (if (s20.2 0 0 28) ≤ s20.1 then
  (some (.inr (.inl s20.2)))
  else
  (sM_comesTold s20.2 s20.1).bind (fun r22 =>
  (if r22.1 = 0 then
  (sM_passesAll r22.2 1 0).bind (fun r24 =>
  (jm_rd 49 (r24 0 21) s20.1).bind (fun v25 =>
  (some (.inr (.inr ((-2000) - v25, r24))))))
  else
  (some (.inl (s20.1 + 1, r22.2))))))
noncomputable def sM_town (M : jm_M) : Option (Int32 × jm_M) :=
  (jm_wf M 0 27 0).bind (fun M1 =>
  (jm_wf M1 0 28 0).bind (fun M2 =>
  (jm_wf M2 0 30 0).bind (fun M3 =>
  Option.bind (jm_loop (sM_town_L17) jm_N (1, M3)) (fun e16 =>
  (jm_wf e16.2 0 26 0).bind (fun M17 =>
  (if e16.1 = 0 then
  (some ((-1000) - (M17 0 0 27), M17))
  else
  (sM_passesAll M17 1 1).bind (fun r19 =>
  Option.bind (jm_loop (sM_town_L91) jm_N (0, r19)) (Sum.elim (fun e26 =>
  (jm_wf e26 0 36 0).bind (fun M27 =>
  (some (M27 0 0 28, M27)))) some))))))))
noncomputable def sM_minds (M : jm_M) : Option (jm_M) :=
  (sM_passesAll M 2 1).bind (fun r1 =>
  (some r1))
noncomputable def sM_forgets (M : jm_M) : Option (jm_M) :=
  (sM_passesAll M 2 0).bind (fun r1 =>
  (jm_wz r1 0 17 0).bind (fun M2 =>
  (some M2)))
noncomputable def sM_remembers (M : jm_M) : Option (jm_M) :=
  Option.bind (α := jm_M) ((if (M 0 0 36) = 8 then
  (jm_rm ((M 0 0 35) + 1) 8).bind (fun v3 =>
  (jm_wf M 0 35 v3).bind (fun M4 =>
  (some M4)))
  else
  (jm_wf M 0 36 ((M 0 0 36) + 1)).bind (fun M5 =>
  (some M5)))) (fun e1 =>
  (jm_rm (((e1 0 0 35) + (e1 0 0 36)) - 1) 8).bind (fun v6 =>
  (sM_passesAll e1 (3 + v6) 1).bind (fun r7 =>
  (some r7))))
noncomputable def sM_back (M : jm_M) : Option (Int32 × jm_M) :=
  (if (M 0 0 36) = 0 then
  (sM_no M (-3)).bind (fun r2 =>
  (some (r2.1, r2.2)))
  else
  (jm_rm (((M 0 0 35) + (M 0 0 36)) - 1) 8).bind (fun v3 =>
  (sM_passesAll M (3 + v3) 0).bind (fun r4 =>
  (jm_wf r4 0 36 ((r4 0 0 36) - 1)).bind (fun M5 =>
  (some (M5 0 0 36, M5))))))
noncomputable def sM_image (M : jm_M) : Option (Int32 × jm_M) :=
  (jm_wz M 0 32 1).bind (fun M1 =>
  (sM_passesAll M1 0 1).bind (fun r2 =>
  (some (r2 0 0 15, r2))))
noncomputable def sM_restore (M : jm_M) : Option (Int32 × jm_M) :=
  (if (M 0 0 32) = 0 then
  (sM_no M (-3)).bind (fun r2 =>
  (some (r2.1, r2.2)))
  else
  (sM_passesAll M 0 0).bind (fun r3 =>
  (jm_wf r3 0 36 0).bind (fun M4 =>
  (some (M4 0 0 15, M4)))))
noncomputable def sM_manyRead_L4 (M : jm_M) (p1 : Int32) (s1 : Int32 × Int32) : Option ((Int32 × Int32) ⊕ (Int32)) :=
  (if (M 0 0 14) ≤ s1.2 then
  (some (.inr s1.1))
  else
  (jm_rd 10 (M 0 9) s1.2).bind (fun v3 =>
  (some (s1.1 + (((v3 : Int32) >>> ((p1 : Int32) &&& 31)) &&& 1))).bind (fun x4 =>
  (some (.inl (x4, s1.2 + 1))))))
noncomputable def sM_manyRead (M : jm_M) (p1 : Int32) : Option (Int32) :=
  Option.bind (jm_loop (sM_manyRead_L4 M p1) jm_N (0, 0)) (fun e5 =>
  (some e5))
noncomputable def sM_manyIn_L5 (p2 : Int32) (p1 : Nat × Nat) (M : jm_M) (p3 : Int32) (s1 : Int32 × Int32) : Option ((Int32 × Int32) ⊕ (Int32)) :=
  (if p2 ≤ s1.2 then
  (some (.inr s1.1))
  else
  (jm_len jm_LM p1).bind (fun N3 =>
  (jm_rd N3 (M p1.1 p1.2) s1.2).bind (fun v4 =>
  (if v4 = p3 then
  (some (s1.1 + 1)).bind (fun x6 =>
  (some (.inl (x6, s1.2 + 1))))
  else
  (some (s1.1 + 0)).bind (fun x7 =>
  (some (.inl (x7, s1.2 + 1))))))))
noncomputable def sM_manyIn (M : jm_M) (p1 : Nat × Nat) (p2 : Int32) (p3 : Int32) : Option (Int32) :=
  Option.bind (jm_loop (sM_manyIn_L5 p2 p1 M p3) jm_N (0, 0)) (fun e8 =>
  (some e8))
noncomputable def sM_person (M : jm_M) (p1 : Int32) (p2 : Int32) : Option (Int32 × jm_M) :=
  (sM_isPerson M p1).bind (fun r1 =>
  (if r1 = 0 then
  (sM_no M (-1)).bind (fun r3 =>
  (some (r3.1, r3.2)))
  else
  (if p2 = 0 then
  (jm_rd 6 (M 0 2) p1).bind (fun v5 =>
  (some (v5, M)))
  else
  (if p2 = 1 then
  (jm_rd 6 (M 0 3) p1).bind (fun v7 =>
  (some (v7, M)))
  else
  (if p2 = 2 then
  (jm_rd 6 (M 0 4) p1).bind (fun v9 =>
  (some (v9, M)))
  else
  (if p2 = 3 then
  (sM_manyRead M p1).bind (fun r11 =>
  (some (r11, M)))
  else
  (if p2 = 4 then
  (sM_manyIn M (0, 8) (M 0 0 14) p1).bind (fun r13 =>
  (some (r13, M)))
  else
  (if p2 = 5 then
  (sM_manyIn M (0, 7) (M 0 0 14) p1).bind (fun r15 =>
  (some (r15, M)))
  else
  (sM_no M (-2)).bind (fun r16 =>
  (some (r16.1, r16.2)))))))))))
noncomputable def sM_book (M : jm_M) (p1 : Int32) (p2 : Int32) : Option (Int32 × jm_M) :=
  (sM_isBook M p1).bind (fun r1 =>
  (if r1 = 0 then
  (sM_no M (-1)).bind (fun r3 =>
  (some (r3.1, r3.2)))
  else
  (if p2 = 0 then
  (jm_rd 10 (M 0 5) p1).bind (fun v5 =>
  (some (v5, M)))
  else
  (if p2 = 1 then
  (jm_rd 10 (M 0 6) p1).bind (fun v7 =>
  (some (v7, M)))
  else
  (if p2 = 2 then
  (jm_rd 10 (M 0 7) p1).bind (fun v9 =>
  (some (v9, M)))
  else
  (if p2 = 3 then
  (jm_rd 10 (M 0 8) p1).bind (fun v11 =>
  (some (v11, M)))
  else
  (if p2 = 4 then
  (jm_rd 10 (M 0 9) p1).bind (fun v13 =>
  (some (v13, M)))
  else
  (if p2 = 5 then
  (sM_weighs M p1).bind (fun r15 =>
  (some (r15, M)))
  else
  (if p2 = 6 then
  (sM_price M p1).bind (fun r17 =>
  (some (r17, M)))
  else
  (if p2 = 7 then
  (jm_rd 10 (M 0 10) p1).bind (fun v19 =>
  (some (v19, M)))
  else
  (sM_no M (-2)).bind (fun r20 =>
  (some (r20.1, r20.2)))))))))))))
noncomputable def sM_title (M : jm_M) (p1 : Int32) (p2 : Int32) : Option (Int32 × jm_M) :=
  (sM_isBook M p1).bind (fun r1 =>
  Option.bind (α := Int32) ((if r1 = 0 then
  (some (-1))
  else
  (if 0 ≤ p2 then
  (some 0)
  else
  (some (-4))))) (fun e2 =>
  (if e2 = 0 then
  (jm_rd 10 (M 0 10) p1).bind (fun v6 =>
  (if v6 ≤ p2 then
  (some ((-9), M))
  else
  (jm_rd 40 (M 0 11) ((4 * p1) + p2)).bind (fun v8 =>
  (some (v8, M)))))
  else
  (sM_no M e2).bind (fun r9 =>
  (some (r9.1, r9.2))))))
noncomputable def sM_comes (M : jm_M) (p1 : Int32) (p2 : Int32) (p3 : Int32) : Option (Int32 × jm_M) :=
  Option.bind (α := Int32) ((if p1 < 0 then
  (some (-4))
  else
  (if p2 < 0 then
  (some (-4))
  else
  (if 0 ≤ p3 then
  (if 99 < p1 then
  (some (-6))
  else
  (if 9 < p2 then
  (some (-6))
  else
  (if 99 < p3 then
  (some (-6))
  else
  (if (M 0 0 13) = 6 then
  (some (-6))
  else
  (some 0)))))
  else
  (some (-4)))))) (fun e1 =>
  (if e1 = 0 then
  (sM_isMore M p1 p2 p3).bind (fun r10 =>
  (jm_wf r10 0 36 0).bind (fun M11 =>
  (some ((M11 0 0 13) - 1, M11))))
  else
  (sM_no M e1).bind (fun r12 =>
  (some (r12.1, r12.2)))))
noncomputable def sM_isLetterTitle_L2 (M : jm_M) (p1 : Int32) (s1 : Int32) : Option ((Int32) ⊕ (Unit ⊕ (Int32))) :=
  (if (M 0 0 14) ≤ s1 then
  (some (.inr (.inl ())))
  else
  (jm_rd 10 (M 0 10) s1).bind (fun v3 =>
  (if v3 = 1 then
  (jm_rd 40 (M 0 11) (4 * s1)).bind (fun v5 =>
  (if v5 = p1 then
  (some (.inr (.inr 1)))
  else
  (some (.inl (s1 + 1)))))
  else
  (some (.inl (s1 + 1))))))
noncomputable def sM_isLetterTitle (M : jm_M) (p1 : Int32) : Option (Int32) :=
  Option.bind (jm_loop (sM_isLetterTitle_L2 M p1) jm_N 0) (Sum.elim (fun e7 =>
  (some 0)) some)
noncomputable def sM_brings (M : jm_M) (p1 : Int32) (p2 : Int32) (p3 : Int32) (p4 : Int32) : Option (Int32 × jm_M) :=
  (sM_isIn p1 0 7).bind (fun r1 =>
  Option.bind (α := Int32) ((if r1 = 0 then
  (some (-2))
  else
  (if p2 < 0 then
  (some (-4))
  else
  (if 0 ≤ p4 then
  (if 9 < p2 then
  (some (-6))
  else
  (if 25 < p4 then
  (some (-6))
  else
  (if (M 0 0 14) = 10 then
  (some (-6))
  else
  (sM_isPlace M p3).bind (fun r9 =>
  (if r9 = 0 then
  (some (-1))
  else
  (some 0))))))
  else
  (some (-4)))))) (fun e2 =>
  Option.bind (α := Int32) ((if e2 = 0 then
  (sM_isLetterTitle M p4).bind (fun r13 =>
  (if r13 = 0 then
  (some e2)
  else
  (some (-3))))
  else
  (some e2))) (fun e11 =>
  (if e11 = 0 then
  (sM_isBrought M p1 p2 p3).bind (fun r16 =>
  (sM_isTitledMore r16 p4).bind (fun r17 =>
  (jm_wf r17 0 36 0).bind (fun M18 =>
  (some ((M18 0 0 14) - 1, M18)))))
  else
  (sM_no M e11).bind (fun r19 =>
  (some (r19.1, r19.2)))))))
noncomputable def sM_eats (M : jm_M) (p1 : Int32) (p2 : Int32) : Option (Int32 × jm_M) :=
  (sM_isPerson M p1).bind (fun r1 =>
  Option.bind (α := Int32) ((if r1 = 0 then
  (some (-1))
  else
  (sM_bound p2 0 99).bind (fun r4 =>
  (some r4)))) (fun e2 =>
  (if e2 = 0 then
  (sM_remembers M).bind (fun r6 =>
  (jm_rd 6 (r6 0 2) p1).bind (fun v7 =>
  (jm_wa 6 r6 0 2 p1 p2).bind (fun M8 =>
  (some (v7, M8)))))
  else
  (sM_no M e2).bind (fun r9 =>
  (some (r9.1, r9.2))))))
noncomputable def sM_reads (M : jm_M) (p1 : Int32) (p2 : Int32) : Option (Int32 × jm_M) :=
  (sM_isPerson M p1).bind (fun r1 =>
  (if r1 = 0 then
  (sM_no M (-1)).bind (fun r3 =>
  (some (r3.1, r3.2)))
  else
  (sM_isBook M p2).bind (fun r4 =>
  (if r4 = 0 then
  (sM_no M (-1)).bind (fun r6 =>
  (some (r6.1, r6.2)))
  else
  (sM_remembers M).bind (fun r7 =>
  (jm_rd 10 (r7 0 9) p2).bind (fun v8 =>
  (sM_has v8 p1).bind (fun r9 =>
  Option.bind (α := Int32) ((if r9 = 0 then
  (some 1)
  else
  (some 0))) (fun e10 =>
  (jm_rd 10 (r7 0 9) p2).bind (fun v12 =>
  (jm_wa 10 r7 0 9 p2 (v12 ||| ((1 : Int32) <<< ((p1 : Int32) &&& 31)))).bind (fun M13 =>
  (some (e10, M13))))))))))))
noncomputable def sM_lends (M : jm_M) (p1 : Int32) (p2 : Int32) : Option (Int32 × jm_M) :=
  (sM_isBook M p1).bind (fun r1 =>
  (if r1 = 0 then
  (sM_no M (-1)).bind (fun r3 =>
  (some (r3.1, r3.2)))
  else
  (sM_isPlace M p2).bind (fun r4 =>
  (if r4 = 0 then
  (sM_no M (-1)).bind (fun r6 =>
  (some (r6.1, r6.2)))
  else
  (sM_remembers M).bind (fun r7 =>
  (jm_rd 10 (r7 0 8) p1).bind (fun v8 =>
  (jm_wa 10 r7 0 8 p1 p2).bind (fun M9 =>
  (some (v8, M9)))))))))
noncomputable def sM_buys (M : jm_M) (p1 : Int32) (p2 : Int32) : Option (Int32 × jm_M) :=
  (sM_isPerson M p1).bind (fun r1 =>
  Option.bind (α := Int32) ((if r1 = 0 then
  (some (-1))
  else
  (sM_isBook M p2).bind (fun r4 =>
  (if r4 = 0 then
  (some (-1))
  else
  (jm_rd 10 (M 0 7) p2).bind (fun v6 =>
  (if v6 = 9 then
  (jm_rd 6 (M 0 4) p1).bind (fun v8 =>
  (sM_price M p2).bind (fun r9 =>
  (if r9 ≤ v8 then
  (some 0)
  else
  (some (-3)))))
  else
  (some (-3)))))))) (fun e2 =>
  (if e2 = 0 then
  (sM_remembers M).bind (fun r12 =>
  (jm_rd 6 (r12 0 4) p1).bind (fun v13 =>
  (sM_price r12 p2).bind (fun r14 =>
  (jm_wa 6 r12 0 4 p1 (v13 - r14)).bind (fun M15 =>
  (jm_wa 10 M15 0 7 p2 p1).bind (fun M16 =>
  (jm_wa 10 M16 0 8 p2 p1).bind (fun M17 =>
  (jm_rd 6 (M17 0 4) p1).bind (fun v18 =>
  (some (v18, M17)))))))))
  else
  (sM_no M e2).bind (fun r19 =>
  (some (r19.1, r19.2))))))
noncomputable def sM_step (M : jm_M) (p1 : Int32) (p2 : Int32) : Option (Int32 × jm_M) :=
  (sM_isIn p1 0 7).bind (fun r1 =>
  Option.bind (α := Int32) ((if r1 = 0 then
  (some (-2))
  else
  (sM_bound p2 0 99).bind (fun r4 =>
  (some r4)))) (fun e2 =>
  Option.bind (α := Int32) ((if e2 = 0 then
  (if (M 0 0 16) = 6 then
  (some (-6))
  else
  (some e2))
  else
  (some e2))) (fun e5 =>
  (if e5 = 0 then
  (sM_remembers M).bind (fun r9 =>
  (jm_wa 6 r9 0 12 (r9 0 0 16) p1).bind (fun M10 =>
  (jm_wa 6 M10 0 13 (M10 0 0 16) p2).bind (fun M11 =>
  (jm_wf M11 0 16 ((M11 0 0 16) + 1)).bind (fun M12 =>
  (some (M12 0 0 16, M12))))))
  else
  (sM_no M e5).bind (fun r13 =>
  (some (r13.1, r13.2)))))))
noncomputable def sM_clearLaw (M : jm_M) : Option (Int32 × jm_M) :=
  (sM_remembers M).bind (fun r1 =>
  (some (r1 0 0 16)).bind (fun x2 =>
  (jm_wf r1 0 16 0).bind (fun M3 =>
  (some (x2, M3)))))
noncomputable def sM_weeks (M : jm_M) (p1 : Int32) : Option (Int32 × jm_M) :=
  (sM_bound p1 1 60).bind (fun r1 =>
  Option.bind (α := Int32) ((if r1 = 0 then
  (if ((M 0 0 15) + p1) ≤ 999 then
  (some r1)
  else
  (some (-6)))
  else
  (some r1))) (fun e2 =>
  (if e2 = 0 then
  (sM_remembers M).bind (fun r6 =>
  (sM_goes r6 p1).bind (fun r7 =>
  (some (r7 0 0 15, r7))))
  else
  (sM_no M e2).bind (fun r8 =>
  (some (r8.1, r8.2))))))
noncomputable def sM_over (M : jm_M) (p1 : Int32) (p2 : Int32) : Option (Int32 × jm_M) :=
  (sM_areTwo M p1 p2).bind (fun r1 =>
  (if r1 = 0 then
  (sM_lower M (-1)).bind (fun r3 =>
  (some (r3.1, r3.2)))
  else
  (sM_overNow M p1 p2).bind (fun r4 =>
  (some (r4, M)))))
noncomputable def sM_pan (M : jm_M) (p1 : Int32) (p2 : Int32) (p3 : Int32) : Option (Int32 × jm_M) :=
  (sM_areTwo M p1 p2).bind (fun r1 =>
  (if r1 = 0 then
  (sM_no M (-1)).bind (fun r3 =>
  (some (r3.1, r3.2)))
  else
  (sM_isBook M p3).bind (fun r4 =>
  (if r4 = 0 then
  (sM_no M (-1)).bind (fun r6 =>
  (some (r6.1, r6.2)))
  else
  (sM_comesTo M p3 p1 p2).bind (fun r7 =>
  (some (r7, M)))))))
noncomputable def sM_overThen (M : jm_M) (p1 : Int32) (p2 : Int32) (p3 : Int32) : Option (Int32 × jm_M) :=
  (sM_areTwo M p1 p2).bind (fun r1 =>
  Option.bind (α := Int32) ((if r1 = 0 then
  (some (-1))
  else
  (sM_bound p3 0 60).bind (fun r4 =>
  (some r4)))) (fun e2 =>
  (if e2 = 0 then
  (sM_minds M).bind (fun r6 =>
  (sM_goes r6 p3).bind (fun r7 =>
  (sM_overNow r7 p1 p2).bind (fun r8 =>
  (sM_forgets r7).bind (fun r9 =>
  (some (r8, r9))))))
  else
  (sM_lower M e2).bind (fun r10 =>
  (some (r10.1, r10.2))))))
noncomputable def sM_then (M : jm_M) (p1 : Int32) (p2 : Int32) (p3 : Int32) : Option (Int32 × jm_M) :=
  (sM_bound p1 0 60).bind (fun r1 =>
  Option.bind (α := Int32) ((if r1 = 0 then
  (sM_isIn p2 0 2).bind (fun r4 =>
  (if r4 = 0 then
  (some (-2))
  else
  (some r1)))
  else
  (some r1))) (fun e2 =>
  Option.bind (α := Int32) ((if e2 = 0 then
  (if p2 = 0 then
  (sM_isPerson M p3).bind (fun r9 =>
  (if r9 = 0 then
  (some (-1))
  else
  (some e2)))
  else
  (sM_isBook M p3).bind (fun r11 =>
  (if r11 = 0 then
  (some (-1))
  else
  (some e2))))
  else
  (some e2))) (fun e6 =>
  (if e6 = 0 then
  (sM_minds M).bind (fun r14 =>
  (sM_goes r14 p1).bind (fun r15 =>
  Option.bind (α := Int32) ((if p2 = 0 then
  (jm_rd 6 (r15 0 2) p3).bind (fun v18 =>
  (some v18))
  else
  (if p2 = 1 then
  (jm_rd 10 (r15 0 9) p3).bind (fun v20 =>
  (sM_bits v20).bind (fun r21 =>
  (some r21)))
  else
  (jm_rd 10 (r15 0 8) p3).bind (fun v22 =>
  (some v22))))) (fun e16 =>
  (sM_forgets r15).bind (fun r23 =>
  (some (e16, r23))))))
  else
  (sM_no M e6).bind (fun r24 =>
  (some (r24.1, r24.2)))))))
noncomputable def sM_whenFrom_L2 (p1 : Int32) (p2 : Int32) (s1 : Int32 × jm_M) : Option ((Int32 × jm_M) ⊕ (jm_M ⊕ (Int32 × jm_M))) :=
  (if 60 < s1.1 then
  (some (.inr (.inl s1.2)))
  else
  (sM_comesDown s1.2 p1 p2).bind (fun r3 =>
  (if r3 = 0 then
  (sM_goesWeek s1.2).bind (fun r5 =>
  (some (.inl (s1.1 + 1, r5))))
  else
  (some (.inr (.inr (s1.1, s1.2)))))))
noncomputable def sM_whenFrom (M : jm_M) (p1 : Int32) (p2 : Int32) : Option (Int32 × jm_M) :=
  Option.bind (jm_loop (sM_whenFrom_L2 p1 p2) jm_N (0, M)) (Sum.elim (fun e6 =>
  (some ((-9), e6))) some)
noncomputable def sM_when (M : jm_M) (p1 : Int32) (p2 : Int32) : Option (Int32 × jm_M) :=
  (sM_areTwo M p1 p2).bind (fun r1 =>
  (if r1 = 0 then
  (sM_no M (-1)).bind (fun r3 =>
  (some (r3.1, r3.2)))
  else
  (sM_minds M).bind (fun r4 =>
  (sM_whenFrom r4 p1 p2).bind (fun r5 =>
  (sM_forgets r5.2).bind (fun r6 =>
  (some (r5.1, r6)))))))
noncomputable def sM_marksDown_L14 (s1 : Int32 × jm_M) (s4 : Int32 × jm_M) : Option ((Int32 × jm_M) ⊕ (jm_M)) :=
  (if (s4.2 0 0 13) ≤ s4.1 then
  (some (.inr s4.2))
  else
  (sM_comesDown s4.2 s1.1 s4.1).bind (fun r6 =>
  Option.bind (α := Int32) ((if r6 = 0 then
  (some 0)
  else
  (some 1))) (fun e7 =>
  (jm_wa 36 s4.2 0 38 ((6 * s1.1) + s4.1) e7).bind (fun M9 =>
  (some (.inl (s4.1 + 1, M9)))))))
noncomputable def sM_marksDown_L2  (s1 : Int32 × jm_M) : Option ((Int32 × jm_M) ⊕ (jm_M)) :=
  (if (s1.2 0 0 13) ≤ s1.1 then
  (some (.inr s1.2))
  else
  (some (s1.1 + 1)).bind (fun x3 =>
  Option.bind (jm_loop (sM_marksDown_L14 s1) jm_N (x3, s1.2)) (fun e10 =>
  (some (.inl (s1.1 + 1, e10))))))
noncomputable def sM_marksDown (M : jm_M) : Option (jm_M) :=
  Option.bind (jm_loop (sM_marksDown_L2) jm_N (0, M)) (fun e11 =>
  (some e11))
noncomputable def sM_firstDown_L14 (M : jm_M) (s1 : Int32) (s4 : Int32) : Option ((Int32) ⊕ (Unit ⊕ ((Int32) ⊕ (Unit ⊕ (Int32))))) :=
  (if (M 0 0 13) ≤ s4 then
  (some (.inr (.inl ())))
  else
  (jm_rd 36 (M 0 38) ((6 * s1) + s4)).bind (fun v6 =>
  (if v6 = 0 then
  (sM_comesDown M s1 s4).bind (fun r8 =>
  (if r8 = 0 then
  (some (.inl (s4 + 1)))
  else
  (some (.inr (.inr (.inr (.inr ((10 * s1) + s4))))))))
  else
  (some (.inl (s4 + 1))))))
noncomputable def sM_firstDown_L2 (M : jm_M) (s1 : Int32) : Option ((Int32) ⊕ (Unit ⊕ (Int32))) :=
  (if (M 0 0 13) ≤ s1 then
  (some (.inr (.inl ())))
  else
  (some (s1 + 1)).bind (fun x3 =>
  Option.bind (jm_loop (sM_firstDown_L14 M s1) jm_N x3) (Sum.elim (fun e10 =>
  (some (.inl (s1 + 1)))) some)))
noncomputable def sM_firstDown (M : jm_M) : Option (Int32) :=
  Option.bind (jm_loop (sM_firstDown_L2 M) jm_N 0) (Sum.elim (fun e11 =>
  (some (-9))) some)
noncomputable def sM_first_L13  (s3 : Int32 × Int32 × jm_M) : Option ((Int32 × Int32 × jm_M) ⊕ (Int32 × jm_M)) :=
  (if 60 ≤ s3.2.1 then
  (some (.inr (s3.1, s3.2.2)))
  else
  (if 0 ≤ s3.1 then
  (some (.inr (s3.1, s3.2.2)))
  else
  (sM_goesWeek s3.2.2).bind (fun r6 =>
  (sM_firstDown r6).bind (fun r7 =>
  (some (.inl (r7, s3.2.1 + 1, r6)))))))
noncomputable def sM_first (M : jm_M) : Option (Int32 × jm_M) :=
  (sM_marksDown M).bind (fun r1 =>
  (sM_minds r1).bind (fun r2 =>
  Option.bind (jm_loop (sM_first_L13) jm_N ((-9), 0, r2)) (fun e8 =>
  (sM_forgets e8.2).bind (fun r9 =>
  (some (e8.1, r9))))))
noncomputable def sM_pricesOf_L4 (M : jm_M) (p1 : Int32) (s1 : Int32 × Int32) : Option ((Int32 × Int32) ⊕ (Int32)) :=
  (if (M 0 0 14) ≤ s1.2 then
  (some (.inr s1.1))
  else
  (sM_has p1 s1.2).bind (fun r3 =>
  (if r3 = 0 then
  (some (s1.1 + 0)).bind (fun x5 =>
  (some (.inl (x5, s1.2 + 1))))
  else
  (sM_price M s1.2).bind (fun r6 =>
  (some (s1.1 + r6)).bind (fun x7 =>
  (some (.inl (x7, s1.2 + 1))))))))
noncomputable def sM_pricesOf (M : jm_M) (p1 : Int32) : Option (Int32) :=
  Option.bind (jm_loop (sM_pricesOf_L4 M p1) jm_N (0, 0)) (fun e8 =>
  (some e8))
noncomputable def sM_ownedBy_L4 (M : jm_M) (p1 : Int32) (s1 : Int32 × Int32) : Option ((Int32 × Int32) ⊕ (Int32)) :=
  (if (M 0 0 14) ≤ s1.2 then
  (some (.inr s1.1))
  else
  (jm_rd 10 (M 0 7) s1.2).bind (fun v3 =>
  (if v3 = p1 then
  (some (s1.1 ||| ((1 : Int32) <<< ((s1.2 : Int32) &&& 31)))).bind (fun x5 =>
  (some (.inl (x5, s1.2 + 1))))
  else
  (some (s1.1 ||| 0)).bind (fun x6 =>
  (some (.inl (x6, s1.2 + 1)))))))
noncomputable def sM_ownedBy (M : jm_M) (p1 : Int32) : Option (Int32) :=
  Option.bind (jm_loop (sM_ownedBy_L4 M p1) jm_N (0, 0)) (fun e7 =>
  (some e7))
noncomputable def sM_isBetter (M : jm_M) (p1 : Int32) (p2 : Int32) : Option (Int32) :=
  (if 0 ≤ p2 then
  (sM_pricesOf M p1).bind (fun r2 =>
  (sM_pricesOf M p2).bind (fun r3 =>
  (if r2 = r3 then
  (sM_bits p1).bind (fun r5 =>
  (sM_bits p2).bind (fun r6 =>
  (if r6 ≤ r5 then
  (some 0)
  else
  (some 1))))
  else
  (sM_pricesOf M p1).bind (fun r8 =>
  (sM_pricesOf M p2).bind (fun r9 =>
  (if r9 ≤ r8 then
  (some 0)
  else
  (some 1)))))))
  else
  (some 1))
noncomputable def sM_buy_L57 (M : jm_M) (r7 : Int32) (p1 : Int32) (p2 : Int32) (s8 : Int32 × Int32) : Option ((Int32 × Int32) ⊕ (Int32)) :=
  (if ((1 : Int32) <<< ((M 0 0 14 : Int32) &&& 31)) ≤ s8.2 then
  (some (.inr s8.1))
  else
  (if (s8.2 &&& (r7 ^^^ (-1))) = 0 then
  (sM_isBetter M s8.2 s8.1).bind (fun r11 =>
  (if r11 = 0 then
  (some (.inl (s8.1, s8.2 + 1)))
  else
  (sM_overWith M p1 p2 s8.2).bind (fun r13 =>
  (if r13 < 0 then
  (some (.inl (s8.1, s8.2 + 1)))
  else
  (some (.inl (s8.2, s8.2 + 1)))))))
  else
  (some (.inl (s8.1, s8.2 + 1)))))
noncomputable def sM_buy (M : jm_M) (p1 : Int32) (p2 : Int32) (p3 : Int32) : Option (Int32 × jm_M) :=
  (sM_areTwo M p1 p2).bind (fun r1 =>
  Option.bind (α := Int32) ((if r1 = 0 then
  (some (-1))
  else
  (sM_isIn p3 0 1).bind (fun r4 =>
  (if r4 = 0 then
  (some (-2))
  else
  (some 0))))) (fun e2 =>
  (if e2 = 0 then
  (sM_ownedBy M 9).bind (fun r7 =>
  Option.bind (jm_loop (sM_buy_L57 M r7 p1 p2) jm_N ((-9), 0)) (fun e15 =>
  (if 0 ≤ e15 then
  (if p3 = 0 then
  (some (e15, M))
  else
  (sM_pricesOf M e15).bind (fun r18 =>
  (some (r18, M))))
  else
  (some ((-9), M)))))
  else
  (sM_no M e2).bind (fun r19 =>
  (some (r19.1, r19.2))))))
noncomputable def sM_borrow_L53 (p1 : Int32) (p2 : Int32) (s7 : Int32 × Int32 × Int32 × jm_M) : Option ((Int32 × Int32 × Int32 × jm_M) ⊕ (Int32 × Int32 × jm_M)) :=
  (if (s7.2.2.2 0 0 14) ≤ s7.2.2.1 then
  (some (.inr (s7.1, s7.2.1, s7.2.2.2)))
  else
  (sM_isHeld s7.2.2.2 s7.2.2.1 p1 p2).bind (fun r9 =>
  (if r9 = 0 then
  (sM_minds s7.2.2.2).bind (fun r11 =>
  (jm_wa 10 r11 0 8 s7.2.2.1 p1).bind (fun M12 =>
  (sM_whenFrom M12 p1 p2).bind (fun r13 =>
  (sM_forgets r13.2).bind (fun r14 =>
  (if r13.1 < 0 then
  (some (.inl (s7.1, s7.2.1, s7.2.2.1 + 1, r14)))
  else
  (if s7.1 < 0 then
  (some (.inl (s7.2.2.1, r13.1, s7.2.2.1 + 1, r14)))
  else
  (if r13.1 < s7.2.1 then
  (some (.inl (s7.2.2.1, r13.1, s7.2.2.1 + 1, r14)))
  else
  (some (.inl (s7.1, s7.2.1, s7.2.2.1 + 1, r14))))))))))
  else
  (some (.inl (s7.1, s7.2.1, s7.2.2.1 + 1, s7.2.2.2))))))
noncomputable def sM_borrow (M : jm_M) (p1 : Int32) (p2 : Int32) (p3 : Int32) : Option (Int32 × jm_M) :=
  (sM_areTwo M p1 p2).bind (fun r1 =>
  Option.bind (α := Int32) ((if r1 = 0 then
  (some (-1))
  else
  (sM_isIn p3 0 1).bind (fun r4 =>
  (if r4 = 0 then
  (some (-2))
  else
  (some 0))))) (fun e2 =>
  (if e2 = 0 then
  Option.bind (jm_loop (sM_borrow_L53 p1 p2) jm_N ((-9), (-9), 0, M)) (fun e18 =>
  (if p3 = 0 then
  (some (e18.1, e18.2.2))
  else
  (some (e18.2.1, e18.2.2))))
  else
  (sM_no M e2).bind (fun r20 =>
  (some (r20.1, r20.2))))))
noncomputable def sM_taught_L72 (p1 : Int32) (p4 : Int32) (p2 : Int32) (p3 : Int32) (s12 : Int32 × Int32 × Int32 × jm_M) : Option ((Int32 × Int32 × Int32 × jm_M) ⊕ (Int32 × jm_M)) :=
  (if (s12.2.2.2 0 0 14) ≤ s12.2.2.1 then
  (some (.inr (s12.1, s12.2.2.2)))
  else
  (sM_minds s12.2.2.2).bind (fun r14 =>
  (jm_rd 10 (r14 0 9) s12.2.2.1).bind (fun v15 =>
  (jm_wa 10 r14 0 9 s12.2.2.1 (v15 ||| ((1 : Int32) <<< ((p1 : Int32) &&& 31)))).bind (fun M16 =>
  (sM_goes M16 p4).bind (fun r17 =>
  (sM_overNow r17 p2 p3).bind (fun r18 =>
  (sM_forgets r17).bind (fun r19 =>
  (if s12.2.1 < r18 then
  (some (.inl (s12.2.2.1, r18, s12.2.2.1 + 1, r19)))
  else
  (some (.inl (s12.1, s12.2.1, s12.2.2.1 + 1, r19)))))))))))
noncomputable def sM_taught (M : jm_M) (p1 : Int32) (p2 : Int32) (p3 : Int32) (p4 : Int32) : Option (Int32 × jm_M) :=
  (sM_isPerson M p1).bind (fun r1 =>
  Option.bind (α := Int32) ((if r1 = 0 then
  (some (-1))
  else
  (sM_areTwo M p2 p3).bind (fun r4 =>
  (if r4 = 0 then
  (some (-1))
  else
  (sM_bound p4 0 60).bind (fun r6 =>
  (some r6)))))) (fun e2 =>
  (if e2 = 0 then
  (sM_minds M).bind (fun r8 =>
  (sM_goes r8 p4).bind (fun r9 =>
  (sM_overNow r9 p2 p3).bind (fun r10 =>
  (sM_forgets r9).bind (fun r11 =>
  Option.bind (jm_loop (sM_taught_L72 p1 p4 p2 p3) jm_N ((-9), r10, 0, r11)) (fun e21 =>
  (some (e21.1, e21.2)))))))
  else
  (sM_no M e2).bind (fun r22 =>
  (some (r22.1, r22.2))))))
noncomputable def sM_leastIn_L2 (p1 : Int32) (s1 : Int32) : Option ((Int32) ⊕ (Int32)) :=
  (sM_has p1 s1).bind (fun r2 =>
  (if r2 = 0 then
  (some (.inl (s1 + 1)))
  else
  (some (.inr s1))))
noncomputable def sM_leastIn (p1 : Int32) : Option (Int32) :=
  Option.bind (jm_loop (sM_leastIn_L2 p1) jm_N 0) (fun e4 =>
  (some e4))
noncomputable def sM_findMost_L53 (x6 : Int32) (r5 : Int32) (s3 : Int32 × jm_M) (s10 : Int32 × jm_M) : Option ((Int32 × jm_M) ⊕ (jm_M)) :=
  (if (s10.2 0 0 13) ≤ s10.1 then
  (some (.inr s10.2))
  else
  (sM_has x6 s10.1).bind (fun r12 =>
  (if r12 = 0 then
  (some (.inl (s10.1 + 1, s10.2)))
  else
  (jm_rd 36 (s10.2 0 38) ((6 * r5) + s10.1)).bind (fun v14 =>
  (if v14 = 1 then
  (jm_rd 64 (s10.2 0 39) (x6 &&& (((1 : Int32) <<< ((s10.1 : Int32) &&& 31)) ^^^ (-1)))).bind (fun v16 =>
  (jm_rd 64 (s10.2 0 39) s3.1).bind (fun v17 =>
  (if (v16 + 1) ≤ v17 then
  (some (.inl (s10.1 + 1, s10.2)))
  else
  (jm_rd 64 (s10.2 0 39) (x6 &&& (((1 : Int32) <<< ((s10.1 : Int32) &&& 31)) ^^^ (-1)))).bind (fun v19 =>
  (jm_wa 64 s10.2 0 39 s3.1 (v19 + 1)).bind (fun M20 =>
  (some (.inl (s10.1 + 1, M20))))))))
  else
  (some (.inl (s10.1 + 1, s10.2))))))))
noncomputable def sM_findMost_L13  (s3 : Int32 × jm_M) : Option ((Int32 × jm_M) ⊕ (jm_M)) :=
  (if ((1 : Int32) <<< ((s3.2 0 0 13 : Int32) &&& 31)) ≤ s3.1 then
  (some (.inr s3.2))
  else
  (sM_leastIn s3.1).bind (fun r5 =>
  (some (s3.1 &&& (((1 : Int32) <<< ((r5 : Int32) &&& 31)) ^^^ (-1)))).bind (fun x6 =>
  (jm_rd 64 (s3.2 0 39) x6).bind (fun v7 =>
  (jm_wa 64 s3.2 0 39 s3.1 v7).bind (fun M8 =>
  (some (r5 + 1)).bind (fun x9 =>
  Option.bind (jm_loop (sM_findMost_L53 x6 r5 s3) jm_N (x9, M8)) (fun e21 =>
  (some (.inl (s3.1 + 1, e21))))))))))
noncomputable def sM_findMost (M : jm_M) : Option (jm_M) :=
  (sM_marksDown M).bind (fun r1 =>
  (jm_wa 64 r1 0 39 0 0).bind (fun M2 =>
  Option.bind (jm_loop (sM_findMost_L13) jm_N (1, M2)) (fun e22 =>
  (some e22))))
noncomputable def sM_partnerFor_L5 (M : jm_M) (p2 : Int32) (p1 : Int32) (p3 : Int32) (s2 : Int32) : Option ((Int32) ⊕ (Unit ⊕ (Int32))) :=
  (if (M 0 0 13) ≤ s2 then
  (some (.inr (.inl ())))
  else
  (sM_has p2 s2).bind (fun r4 =>
  (if r4 = 0 then
  (some (.inl (s2 + 1)))
  else
  (jm_rd 36 (M 0 38) ((6 * p1) + s2)).bind (fun v6 =>
  (if v6 = 1 then
  (jm_rd 64 (M 0 39) (p2 &&& (((1 : Int32) <<< ((s2 : Int32) &&& 31)) ^^^ (-1)))).bind (fun v8 =>
  (if (v8 + 1) = p3 then
  (some (.inr (.inr s2)))
  else
  (some (.inl (s2 + 1)))))
  else
  (some (.inl (s2 + 1))))))))
noncomputable def sM_partnerFor (M : jm_M) (p1 : Int32) (p2 : Int32) (p3 : Int32) : Option (Int32) :=
  (some (p1 + 1)).bind (fun x1 =>
  Option.bind (jm_loop (sM_partnerFor_L5 M p2 p1 p3) jm_N x1) (Sum.elim (fun e10 =>
  (some (-9))) some))
noncomputable def sM_findPartners_L9  (s2 : Int32 × jm_M) : Option ((Int32 × jm_M) ⊕ (jm_M)) :=
  (if s2.1 = 0 then
  (some (.inr s2.2))
  else
  (sM_leastIn s2.1).bind (fun r4 =>
  (jm_rd 64 (s2.2 0 39) s2.1).bind (fun v5 =>
  (sM_partnerFor s2.2 r4 (s2.1 &&& (((1 : Int32) <<< ((r4 : Int32) &&& 31)) ^^^ (-1))) v5).bind (fun r6 =>
  (jm_wa 6 s2.2 0 40 r4 r6).bind (fun M7 =>
  (some (s2.1 &&& (((1 : Int32) <<< ((r4 : Int32) &&& 31)) ^^^ (-1)))).bind (fun x8 =>
  (if 0 ≤ r6 then
  (jm_wa 6 M7 0 40 r6 r4).bind (fun M10 =>
  (some (x8 &&& (((1 : Int32) <<< ((r6 : Int32) &&& 31)) ^^^ (-1)))).bind (fun x11 =>
  (some (.inl (x11, M10)))))
  else
  (some (.inl (x8, M7))))))))))
noncomputable def sM_findPartners (M : jm_M) : Option (jm_M) :=
  (some (((1 : Int32) <<< ((M 0 0 13 : Int32) &&& 31)) - 1)).bind (fun x1 =>
  Option.bind (jm_loop (sM_findPartners_L9) jm_N (x1, M)) (fun e12 =>
  (some e12)))
noncomputable def sM_couples (M : jm_M) (p1 : Int32) : Option (Int32 × jm_M) :=
  (sM_isIn p1 (-1) ((M 0 0 13) - 1)).bind (fun r1 =>
  (if r1 = 0 then
  (sM_no M (-1)).bind (fun r3 =>
  (some (r3.1, r3.2)))
  else
  (sM_findMost M).bind (fun r4 =>
  (if 0 ≤ p1 then
  (sM_findPartners r4).bind (fun r6 =>
  (jm_rd 6 (r6 0 40) p1).bind (fun v7 =>
  (some (v7, r6))))
  else
  (jm_rd 64 (r4 0 39) (((1 : Int32) <<< ((r4 0 0 13 : Int32) &&& 31)) - 1)).bind (fun v8 =>
  (some (v8, r4)))))))
noncomputable def sM_isHeavier (M : jm_M) (p1 : Int32) (p2 : Int32) (p3 : Int32) (p4 : Int32) : Option (Int32) :=
  (sM_comesTo M p1 p3 p4).bind (fun r1 =>
  (sM_comesTo M p2 p3 p4).bind (fun r2 =>
  (if r1 = r2 then
  (sM_compares M p1 p2).bind (fun r4 =>
  (if 0 ≤ r4 then
  (some 0)
  else
  (some 1)))
  else
  (if r1 ≤ r2 then
  (some 0)
  else
  (some 1)))))
noncomputable def sM_heavierThan_L6 (M : jm_M) (p1 : Int32) (p2 : Int32) (p3 : Int32) (s1 : Int32 × Int32) : Option ((Int32 × Int32) ⊕ (Int32)) :=
  (if (M 0 0 14) ≤ s1.2 then
  (some (.inr s1.1))
  else
  (if s1.2 = p1 then
  (some (s1.1 + 0)).bind (fun x4 =>
  (some (.inl (x4, s1.2 + 1))))
  else
  (sM_isHeld M s1.2 p2 p3).bind (fun r5 =>
  (if r5 = 0 then
  (some (s1.1 + 0)).bind (fun x7 =>
  (some (.inl (x7, s1.2 + 1))))
  else
  (sM_isHeavier M s1.2 p1 p2 p3).bind (fun r8 =>
  (if r8 = 0 then
  (some (s1.1 + 0)).bind (fun x10 =>
  (some (.inl (x10, s1.2 + 1))))
  else
  (some (s1.1 + 1)).bind (fun x11 =>
  (some (.inl (x11, s1.2 + 1))))))))))
noncomputable def sM_heavierThan (M : jm_M) (p1 : Int32) (p2 : Int32) (p3 : Int32) : Option (Int32) :=
  Option.bind (jm_loop (sM_heavierThan_L6 M p1 p2 p3) jm_N (0, 0)) (fun e12 =>
  (some e12))
noncomputable def sM_heaviest_L40 (M : jm_M) (p1 : Int32) (p2 : Int32) (p3 : Int32) (s6 : Int32) : Option ((Int32) ⊕ (Unit ⊕ (Int32 × jm_M))) :=
  (if (M 0 0 14) ≤ s6 then
  (some (.inr (.inl ())))
  else
  (sM_isHeld M s6 p1 p2).bind (fun r8 =>
  (if r8 = 0 then
  (some (.inl (s6 + 1)))
  else
  (sM_heavierThan M s6 p1 p2).bind (fun r10 =>
  (if r10 = p3 then
  (some (.inr (.inr (s6, M))))
  else
  (some (.inl (s6 + 1))))))))
noncomputable def sM_heaviest (M : jm_M) (p1 : Int32) (p2 : Int32) (p3 : Int32) : Option (Int32 × jm_M) :=
  (sM_areTwo M p1 p2).bind (fun r1 =>
  Option.bind (α := Int32) ((if r1 = 0 then
  (some (-1))
  else
  (if 0 ≤ p3 then
  (some 0)
  else
  (some (-4))))) (fun e2 =>
  (if e2 = 0 then
  Option.bind (jm_loop (sM_heaviest_L40 M p1 p2 p3) jm_N 0) (Sum.elim (fun e12 =>
  (some ((-9), M))) some)
  else
  (sM_no M e2).bind (fun r13 =>
  (some (r13.1, r13.2))))))
noncomputable def sM_wasSo_L2 (p1 : Int32) (p2 : Int32) (s1 : Int32 × jm_M) : Option ((Int32 × jm_M) ⊕ (jm_M ⊕ (Int32 × jm_M))) :=
  (if (s1.2 0 0 41) ≤ s1.1 then
  (some (.inr (.inl s1.2)))
  else
  (sM_overNow s1.2 p1 p2).bind (fun r3 =>
  (jm_rd 12 (s1.2 0 41) s1.1).bind (fun v4 =>
  (if r3 = v4 then
  (sM_goesWeek s1.2).bind (fun r6 =>
  (some (.inl (s1.1 + 1, r6))))
  else
  (some (.inr (.inr (0, s1.2))))))))
noncomputable def sM_wasSo (M : jm_M) (p1 : Int32) (p2 : Int32) : Option (Int32 × jm_M) :=
  Option.bind (jm_loop (sM_wasSo_L2 p1 p2) jm_N (0, M)) (Sum.elim (fun e7 =>
  (some (1, e7))) some)
noncomputable def sM_whatKind_L57 (p4 : Int32) (p3 : Int32) (p1 : Int32) (p2 : Int32) (s9 : Int32 × Int32 × jm_M) : Option ((Int32 × Int32 × jm_M) ⊕ (Int32 × jm_M)) :=
  Option.bind (α := Int32) ((if p4 = 0 then
  (some 8)
  else
  (some 10))) (fun e10 =>
  (if e10 ≤ s9.2.1 then
  (some (.inr (s9.1, s9.2.2)))
  else
  (sM_minds s9.2.2).bind (fun r13 =>
  Option.bind (α := jm_M) ((if p4 = 0 then
  (jm_wa 10 r13 0 5 p3 s9.2.1).bind (fun M16 =>
  (some M16))
  else
  (jm_wa 10 r13 0 6 p3 s9.2.1).bind (fun M17 =>
  (some M17)))) (fun e14 =>
  (sM_wasSo e14 p1 p2).bind (fun r18 =>
  Option.bind (α := Int32) ((if r18.1 = 0 then
  (some 0)
  else
  (some ((1 : Int32) <<< ((s9.2.1 : Int32) &&& 31))))) (fun e19 =>
  (some (s9.1 ||| e19)).bind (fun x21 =>
  (sM_forgets r18.2).bind (fun r22 =>
  (some (.inl (x21, s9.2.1 + 1, r22)))))))))))
noncomputable def sM_whatKind (M : jm_M) (p1 : Int32) (p2 : Int32) (p3 : Int32) (p4 : Int32) : Option (Int32 × jm_M) :=
  (sM_areTwo M p1 p2).bind (fun r1 =>
  Option.bind (α := Int32) ((if r1 = 0 then
  (some (-1))
  else
  (sM_isBook M p3).bind (fun r4 =>
  (if r4 = 0 then
  (some (-1))
  else
  (sM_isIn p4 0 1).bind (fun r6 =>
  (if r6 = 0 then
  (some (-2))
  else
  (some 0))))))) (fun e2 =>
  (if e2 = 0 then
  Option.bind (jm_loop (sM_whatKind_L57 p4 p3 p1 p2) jm_N (0, 0, M)) (fun e23 =>
  (some (e23.1, e23.2)))
  else
  (sM_no M e2).bind (fun r24 =>
  (some (r24.1, r24.2))))))
noncomputable def sM_gives_L2 (p1 : Int32) (s1 : Int32 × jm_M) : Option ((Int32 × jm_M) ⊕ (jm_M)) :=
  (if (s1.2 0 0 14) ≤ s1.1 then
  (some (.inr s1.2))
  else
  (jm_rd 10 (s1.2 0 8) s1.1).bind (fun v3 =>
  Option.bind (α := Int32) ((if v3 = p1 then
  (jm_rd 10 (s1.2 0 7) s1.1).bind (fun v6 =>
  (some v6))
  else
  (jm_rd 10 (s1.2 0 8) s1.1).bind (fun v7 =>
  (some v7)))) (fun e4 =>
  (jm_wa 10 s1.2 0 8 s1.1 e4).bind (fun M8 =>
  (some (.inl (s1.1 + 1, M8)))))))
noncomputable def sM_gives (M : jm_M) (p1 : Int32) : Option (jm_M) :=
  Option.bind (jm_loop (sM_gives_L2 p1) jm_N (0, M)) (fun e9 =>
  (some e9))
noncomputable def sM_findEnds_L3 (p1 : Int32) (p2 : Int32) (p3 : Int32) (s1 : Int32 × jm_M) : Option ((Int32 × jm_M) ⊕ (jm_M)) :=
  (if 4 ≤ s1.1 then
  (some (.inr s1.2))
  else
  (sM_minds s1.2).bind (fun r3 =>
  (jm_dv s1.1 2).bind (fun v4 =>
  Option.bind (α := jm_M) ((if v4 = 1 then
  (sM_gives r3 p1).bind (fun r7 =>
  (some r7))
  else
  (some r3))) (fun e5 =>
  (jm_rm s1.1 2).bind (fun v8 =>
  Option.bind (α := jm_M) ((if v8 = 1 then
  (sM_gives e5 p2).bind (fun r11 =>
  (some r11))
  else
  (some e5))) (fun e9 =>
  (sM_goes e9 p3).bind (fun r12 =>
  (sM_manyRead r12 p1).bind (fun r13 =>
  (jm_dv s1.1 2).bind (fun v14 =>
  (jm_wa 8 r12 0 43 (2 * s1.1) (r13 + (2 * v14))).bind (fun M15 =>
  (sM_manyRead M15 p2).bind (fun r16 =>
  (jm_rm s1.1 2).bind (fun v17 =>
  (jm_wa 8 M15 0 43 ((2 * s1.1) + 1) (r16 + (2 * v17))).bind (fun M18 =>
  (sM_forgets M18).bind (fun r19 =>
  (some (.inl (s1.1 + 1, r19)))))))))))))))))
noncomputable def sM_findEnds (M : jm_M) (p1 : Int32) (p2 : Int32) (p3 : Int32) : Option (jm_M) :=
  Option.bind (jm_loop (sM_findEnds_L3 p1 p2 p3) jm_N (0, M)) (fun e20 =>
  (some e20))
noncomputable def sM_two_L44 (r6 : jm_M) (s7 : Int32) : Option ((Int32) ⊕ (Unit ⊕ (Int32 × jm_M))) :=
  (if 4 ≤ s7 then
  (some (.inr (.inl ())))
  else
  (jm_rd 8 (r6 0 43) (2 * (s7 ^^^ 2))).bind (fun v9 =>
  (jm_rd 8 (r6 0 43) (2 * s7)).bind (fun v10 =>
  (if v10 < v9 then
  (some (.inl (s7 + 1)))
  else
  (jm_rd 8 (r6 0 43) ((2 * (s7 ^^^ 1)) + 1)).bind (fun v12 =>
  (jm_rd 8 (r6 0 43) ((2 * s7) + 1)).bind (fun v13 =>
  (if v13 < v12 then
  (some (.inl (s7 + 1)))
  else
  (jm_dv s7 2).bind (fun v15 =>
  (jm_rm s7 2).bind (fun v16 =>
  (some (.inr (.inr ((10 * v15) + v16, r6)))))))))))))
noncomputable def sM_two (M : jm_M) (p1 : Int32) (p2 : Int32) (p3 : Int32) : Option (Int32 × jm_M) :=
  (sM_areTwo M p1 p2).bind (fun r1 =>
  Option.bind (α := Int32) ((if r1 = 0 then
  (some (-1))
  else
  (sM_bound p3 1 30).bind (fun r4 =>
  (some r4)))) (fun e2 =>
  (if e2 = 0 then
  (sM_findEnds M p1 p2 p3).bind (fun r6 =>
  Option.bind (jm_loop (sM_two_L44 r6) jm_N 0) (Sum.elim (fun e17 =>
  (some ((-9), r6))) some))
  else
  (sM_no M e2).bind (fun r18 =>
  (some (r18.1, r18.2))))))
noncomputable def sM_divisor_L6  (s1 : Int64 × Int64) : Option ((Int64 × Int64) ⊕ (Int64)) :=
  (if (lg_cmp s1.2 0) = 0 then
  (some (.inr s1.1))
  else
  (jm_lrm s1.1 s1.2).bind (fun v3 =>
  (some (.inl (s1.2, v3)))))
noncomputable def sM_divisor (p1 : Int64) (p2 : Int64) : Option (Int64) :=
  Option.bind (jm_loop (sM_divisor_L6) jm_N (p1, p2)) (fun e4 =>
  (some e4))
noncomputable def sM_partOf (p1 : Int64) (p2 : Int64) (p3 : Int32) : Option (Int64) :=
  Option.bind (α := Int64) ((if p3 = 0 then
  (some p1)
  else
  (some p2))) (fun e1 =>
  (sM_divisor p1 p2).bind (fun r3 =>
  (jm_ldv e1 r3).bind (fun v4 =>
  (some v4))))
noncomputable def sM_damp_L85 (p3 : Int32) (p4 : Int32) (s11 : Int64 × Int32) : Option ((Int64 × Int32) ⊕ (Int64)) :=
  (if p3 ≤ s11.2 then
  (some (.inr s11.1))
  else
  (some (s11.1 * ((p4 : Int32).toInt64))).bind (fun x13 =>
  (some (.inl (x13, s11.2 + 1)))))
noncomputable def sM_damp_L126 (p3 : Int32) (s15 : Int64 × Int32 × jm_M) (p4 : Int32) (s18 : Int64 × Int32 × jm_M) : Option ((Int64 × Int32 × jm_M) ⊕ (Int64 × jm_M)) :=
  (if p3 ≤ s18.2.1 then
  (some (.inr (s18.1, s18.2.2)))
  else
  (sM_has s15.2.1 s18.2.1).bind (fun r20 =>
  (jm_wz s18.2.2 0 17 r20).bind (fun M21 =>
  Option.bind (α := Int64) ((if (M21 0 0 17) = 0 then
  (some ((p4 - 1 : Int32).toInt64))
  else
  (some 1))) (fun e22 =>
  (some (s18.1 * e22)).bind (fun x24 =>
  (sM_goesWeek M21).bind (fun r25 =>
  (some (.inl (x24, s18.2.1 + 1, r25)))))))))
noncomputable def sM_damp_L108 (p3 : Int32) (p4 : Int32) (p1 : Int32) (p2 : Int32) (s15 : Int64 × Int32 × jm_M) : Option ((Int64 × Int32 × jm_M) ⊕ (Int64 × jm_M)) :=
  (if ((1 : Int32) <<< ((p3 : Int32) &&& 31)) ≤ s15.2.1 then
  (some (.inr (s15.1, s15.2.2)))
  else
  (sM_minds s15.2.2).bind (fun r17 =>
  Option.bind (jm_loop (sM_damp_L126 p3 s15 p4) jm_N (1, 0, r17)) (fun e26 =>
  (sM_comesDown e26.2 p1 p2).bind (fun r27 =>
  Option.bind (α := Int64) ((if r27 = 0 then
  (some 0)
  else
  (some e26.1))) (fun e28 =>
  (some (s15.1 + e28)).bind (fun x30 =>
  (sM_forgets e26.2).bind (fun r31 =>
  (some (.inl (x30, s15.2.1 + 1, r31))))))))))
noncomputable def sM_damp (M : jm_M) (p1 : Int32) (p2 : Int32) (p3 : Int32) (p4 : Int32) (p5 : Int32) : Option (Int64 × jm_M) :=
  (sM_areTwo M p1 p2).bind (fun r1 =>
  Option.bind (α := Int32) ((if r1 = 0 then
  (some (-1))
  else
  (if p3 < 0 then
  (some (-4))
  else
  (if 2 ≤ p4 then
  (if 7 < p3 then
  (some (-6))
  else
  (if p4 ≤ 20 then
  (sM_isIn p5 0 1).bind (fun r8 =>
  (if r8 = 0 then
  (some (-2))
  else
  (some 0)))
  else
  (some (-6))))
  else
  (some (-4)))))) (fun e2 =>
  (if e2 = 0 then
  Option.bind (jm_loop (sM_damp_L85 p3 p4) jm_N (1, 0)) (fun e14 =>
  Option.bind (jm_loop (sM_damp_L108 p3 p4 p1 p2) jm_N (0, 0, M)) (fun e32 =>
  (sM_partOf e32.1 e14 p5).bind (fun r33 =>
  (some (r33, e32.2)))))
  else
  (sM_lowestOf M e2).bind (fun r34 =>
  (some (r34.1, r34.2))))))
noncomputable def sM_titles (M : jm_M) (p1 : Int32) (p2 : Int32) : Option (Int32 × jm_M) :=
  (sM_isBook M p1).bind (fun r1 =>
  Option.bind (α := Int32) ((if r1 = 0 then
  (some (-1))
  else
  (sM_isIn p2 0 1).bind (fun r4 =>
  (if r4 = 0 then
  (some (-2))
  else
  (some 0))))) (fun e2 =>
  (if e2 = 0 then
  (if p2 = 0 then
  (sM_rankOf M p1).bind (fun r8 =>
  (some (r8, M)))
  else
  (sM_rankOf M p1).bind (fun r9 =>
  (sM_ofRank M (r9 + 1)).bind (fun r10 =>
  (some (r10, M)))))
  else
  (sM_no M e2).bind (fun r11 =>
  (some (r11.1, r11.2))))))
noncomputable def sM_from_L23 (M : jm_M) (p1 : Int32) (s3 : Int32 × Int32) : Option ((Int32 × Int32) ⊕ (Int32)) :=
  (if (M 0 0 14) ≤ s3.2 then
  (some (.inr s3.1))
  else
  (jm_rd 40 (M 0 11) (4 * s3.2)).bind (fun v5 =>
  (if p1 ≤ v5 then
  (some (s3.1 + 0)).bind (fun x7 =>
  (some (.inl (x7, s3.2 + 1))))
  else
  (some (s3.1 + 1)).bind (fun x8 =>
  (some (.inl (x8, s3.2 + 1)))))))
noncomputable def sM_from (M : jm_M) (p1 : Int32) : Option (Int32 × jm_M) :=
  (sM_bound p1 0 25).bind (fun r1 =>
  (if r1 = 0 then
  Option.bind (jm_loop (sM_from_L23 M p1) jm_N (0, 0)) (fun e9 =>
  (sM_ofRank M e9).bind (fun r10 =>
  (some (r10, M))))
  else
  (sM_no M r1).bind (fun r11 =>
  (some (r11.1, r11.2)))))
noncomputable def sM_kindsOn_L4 (M : jm_M) (p1 : Int32) (s1 : Int32 × Int32) : Option ((Int32 × Int32) ⊕ (Int32)) :=
  (if (M 0 0 14) ≤ s1.2 then
  (some (.inr s1.1))
  else
  (jm_rd 10 (M 0 8) s1.2).bind (fun v3 =>
  (if v3 = p1 then
  (jm_rd 10 (M 0 5) s1.2).bind (fun v5 =>
  (some (s1.1 ||| ((1 : Int32) <<< ((v5 : Int32) &&& 31)))).bind (fun x6 =>
  (some (.inl (x6, s1.2 + 1)))))
  else
  (some (s1.1 ||| 0)).bind (fun x7 =>
  (some (.inl (x7, s1.2 + 1)))))))
noncomputable def sM_kindsOn (M : jm_M) (p1 : Int32) : Option (Int32) :=
  Option.bind (jm_loop (sM_kindsOn_L4 M p1) jm_N (0, 0)) (fun e8 =>
  (some e8))
noncomputable def sM_manyOn_L5 (M : jm_M) (p1 : Int32) (p2 : Int32) (s1 : Int32 × Int32) : Option ((Int32 × Int32) ⊕ (Int32)) :=
  (if (M 0 0 14) ≤ s1.2 then
  (some (.inr s1.1))
  else
  (jm_rd 10 (M 0 8) s1.2).bind (fun v3 =>
  (if v3 = p1 then
  (jm_rd 10 (M 0 5) s1.2).bind (fun v5 =>
  (if v5 = p2 then
  (some (s1.1 + 1)).bind (fun x7 =>
  (some (.inl (x7, s1.2 + 1))))
  else
  (some (s1.1 + 0)).bind (fun x8 =>
  (some (.inl (x8, s1.2 + 1))))))
  else
  (some (s1.1 + 0)).bind (fun x9 =>
  (some (.inl (x9, s1.2 + 1)))))))
noncomputable def sM_manyOn (M : jm_M) (p1 : Int32) (p2 : Int32) : Option (Int32) :=
  Option.bind (jm_loop (sM_manyOn_L5 M p1 p2) jm_N (0, 0)) (fun e10 =>
  (some e10))
noncomputable def sM_mostOn_L5 (M : jm_M) (p1 : Int32) (s1 : Int32 × Int32) : Option ((Int32 × Int32) ⊕ (Int32)) :=
  (if 8 ≤ s1.2 then
  (some (.inr s1.1))
  else
  (sM_manyOn M p1 s1.2).bind (fun r3 =>
  Option.bind (α := Int32) ((if 0 ≤ s1.1 then
  (sM_manyOn M p1 s1.1).bind (fun r6 =>
  (some r6))
  else
  (some 0))) (fun e4 =>
  (if r3 ≤ e4 then
  (some (.inl (s1.1, s1.2 + 1)))
  else
  (some (.inl (s1.2, s1.2 + 1)))))))
noncomputable def sM_mostOn (M : jm_M) (p1 : Int32) : Option (Int32) :=
  Option.bind (jm_loop (sM_mostOn_L5 M p1) jm_N ((-9), 0)) (fun e8 =>
  (some e8))
noncomputable def sM_pricesOn_L4 (M : jm_M) (p1 : Int32) (s1 : Int32 × Int32) : Option ((Int32 × Int32) ⊕ (Int32)) :=
  (if (M 0 0 14) ≤ s1.2 then
  (some (.inr s1.1))
  else
  (jm_rd 10 (M 0 8) s1.2).bind (fun v3 =>
  (if v3 = p1 then
  (sM_price M s1.2).bind (fun r5 =>
  (some (s1.1 + r5)).bind (fun x6 =>
  (some (.inl (x6, s1.2 + 1)))))
  else
  (some (s1.1 + 0)).bind (fun x7 =>
  (some (.inl (x7, s1.2 + 1)))))))
noncomputable def sM_pricesOn (M : jm_M) (p1 : Int32) : Option (Int32) :=
  Option.bind (jm_loop (sM_pricesOn_L4 M p1) jm_N (0, 0)) (fun e8 =>
  (some e8))
noncomputable def sM_shelf (M : jm_M) (p1 : Int32) (p2 : Int32) : Option (Int32 × jm_M) :=
  (sM_isPlace M p1).bind (fun r1 =>
  (if r1 = 0 then
  (sM_no M (-1)).bind (fun r3 =>
  (some (r3.1, r3.2)))
  else
  (if p2 = 0 then
  (sM_manyIn M (0, 8) (M 0 0 14) p1).bind (fun r5 =>
  (some (r5, M)))
  else
  (if p2 = 1 then
  (sM_kindsOn M p1).bind (fun r7 =>
  (some (r7, M)))
  else
  (if p2 = 2 then
  (sM_pricesOn M p1).bind (fun r9 =>
  (some (r9, M)))
  else
  (if p2 = 3 then
  (sM_mostOn M p1).bind (fun r11 =>
  (some (r11, M)))
  else
  (sM_no M (-2)).bind (fun r12 =>
  (some (r12.1, r12.2)))))))))
noncomputable def sM_sizeOf (p1 : Int32) : Option (Int32) :=
  (if 0 ≤ p1 then
  (some p1)
  else
  (some (-p1)))
noncomputable def sM_closest_L20 (M : jm_M) (s1 : Int32 × Int32 × Int32) (s4 : Int32 × Int32 × Int32) : Option ((Int32 × Int32 × Int32) ⊕ (Int32 × Int32)) :=
  (if (M 0 0 13) ≤ s4.2.2 then
  (some (.inr (s4.1, s4.2.1)))
  else
  (sM_overNow M s1.2.2 s4.2.2).bind (fun r6 =>
  (sM_sizeOf r6).bind (fun r7 =>
  (if s4.1 < 0 then
  (some ((10 * s1.2.2) + s4.2.2)).bind (fun x9 =>
  (some (.inl (x9, r7, s4.2.2 + 1))))
  else
  (if r7 < s4.2.1 then
  (some ((10 * s1.2.2) + s4.2.2)).bind (fun x11 =>
  (some (.inl (x11, r7, s4.2.2 + 1))))
  else
  (some (.inl (s4.1, s4.2.1, s4.2.2 + 1))))))))
noncomputable def sM_closest_L7 (M : jm_M) (s1 : Int32 × Int32 × Int32) : Option ((Int32 × Int32 × Int32) ⊕ (Int32)) :=
  (if (M 0 0 13) ≤ s1.2.2 then
  (some (.inr s1.1))
  else
  (some (s1.2.2 + 1)).bind (fun x3 =>
  Option.bind (jm_loop (sM_closest_L20 M s1) jm_N (s1.1, s1.2.1, x3)) (fun e12 =>
  (some (.inl (e12.1, e12.2, s1.2.2 + 1))))))
noncomputable def sM_closest (M : jm_M) : Option (Int32) :=
  Option.bind (jm_loop (sM_closest_L7 M) jm_N ((-9), 0, 0)) (fun e13 =>
  (some e13))
noncomputable def sM_poor_L5 (M : jm_M) (s1 : Int32 × Int32) : Option ((Int32 × Int32) ⊕ (Int32)) :=
  (if (M 0 0 14) ≤ s1.2 then
  (some (.inr s1.1))
  else
  (jm_rd 10 (M 0 7) s1.2).bind (fun v3 =>
  (if v3 = 9 then
  (if s1.1 < 0 then
  (sM_price M s1.2).bind (fun r6 =>
  (some (.inl (r6, s1.2 + 1))))
  else
  (sM_price M s1.2).bind (fun r7 =>
  (if s1.1 ≤ r7 then
  (some (.inl (s1.1, s1.2 + 1)))
  else
  (sM_price M s1.2).bind (fun r9 =>
  (some (.inl (r9, s1.2 + 1)))))))
  else
  (some (.inl (s1.1, s1.2 + 1))))))
noncomputable def sM_poor_L57 (M : jm_M) (e10 : Int32) (s11 : Int32 × Int32) : Option ((Int32 × Int32) ⊕ (Int32)) :=
  (if (M 0 0 13) ≤ s11.2 then
  (some (.inr s11.1))
  else
  (jm_rd 6 (M 0 4) s11.2).bind (fun v13 =>
  (if e10 ≤ v13 then
  (some (s11.1 + 0)).bind (fun x15 =>
  (some (.inl (x15, s11.2 + 1))))
  else
  (some (s11.1 + 1)).bind (fun x16 =>
  (some (.inl (x16, s11.2 + 1)))))))
noncomputable def sM_poor (M : jm_M) : Option (Int32) :=
  Option.bind (jm_loop (sM_poor_L5 M) jm_N ((-9), 0)) (fun e10 =>
  Option.bind (jm_loop (sM_poor_L57 M e10) jm_N (0, 0)) (fun e17 =>
  (some e17)))
noncomputable def sM_unread_L4 (M : jm_M) (s1 : Int32 × Int32) : Option ((Int32 × Int32) ⊕ (Int32)) :=
  (if (M 0 0 14) ≤ s1.2 then
  (some (.inr s1.1))
  else
  (jm_rd 10 (M 0 9) s1.2).bind (fun v3 =>
  (if v3 = 0 then
  (some (s1.1 ||| ((1 : Int32) <<< ((s1.2 : Int32) &&& 31)))).bind (fun x5 =>
  (some (.inl (x5, s1.2 + 1))))
  else
  (some (s1.1 ||| 0)).bind (fun x6 =>
  (some (.inl (x6, s1.2 + 1)))))))
noncomputable def sM_unread (M : jm_M) : Option (Int32) :=
  Option.bind (jm_loop (sM_unread_L4 M) jm_N (0, 0)) (fun e7 =>
  (some e7))
noncomputable def sM_lent_L4 (M : jm_M) (s1 : Int32 × Int32) : Option ((Int32 × Int32) ⊕ (Int32)) :=
  (if (M 0 0 14) ≤ s1.2 then
  (some (.inr s1.1))
  else
  (jm_rd 10 (M 0 8) s1.2).bind (fun v3 =>
  (jm_rd 10 (M 0 7) s1.2).bind (fun v4 =>
  (if v3 = v4 then
  (some (s1.1 ||| 0)).bind (fun x6 =>
  (some (.inl (x6, s1.2 + 1))))
  else
  (some (s1.1 ||| ((1 : Int32) <<< ((s1.2 : Int32) &&& 31)))).bind (fun x7 =>
  (some (.inl (x7, s1.2 + 1))))))))
noncomputable def sM_lent (M : jm_M) : Option (Int32) :=
  Option.bind (jm_loop (sM_lent_L4 M) jm_N (0, 0)) (fun e8 =>
  (some e8))
noncomputable def sM_sight (M : jm_M) (p1 : Int32) : Option (Int32 × jm_M) :=
  (if p1 = 0 then
  (sM_closest M).bind (fun r2 =>
  (some (r2, M)))
  else
  (if p1 = 1 then
  (sM_poor M).bind (fun r4 =>
  (some (r4, M)))
  else
  (if p1 = 2 then
  (sM_unread M).bind (fun r6 =>
  (some (r6, M)))
  else
  (if p1 = 3 then
  (sM_lent M).bind (fun r8 =>
  (some (r8, M)))
  else
  (sM_no M (-2)).bind (fun r9 =>
  (some (r9.1, r9.2)))))))
noncomputable def sM_share (M : jm_M) (p1 : Int32) (p2 : Int32) : Option (Int64 × jm_M) :=
  (sM_isPerson M p1).bind (fun r1 =>
  Option.bind (α := Int32) ((if r1 = 0 then
  (some (-1))
  else
  (sM_isIn p2 0 1).bind (fun r4 =>
  (if r4 = 0 then
  (some (-2))
  else
  (some 0))))) (fun e2 =>
  (if e2 = 0 then
  (if (M 0 0 14) = 0 then
  (some ((p2 : Int32).toInt64, M))
  else
  (sM_manyRead M p1).bind (fun r8 =>
  (sM_partOf ((r8 : Int32).toInt64) ((M 0 0 14 : Int32).toInt64) p2).bind (fun r9 =>
  (some (r9, M)))))
  else
  (sM_lowestOf M e2).bind (fun r10 =>
  (some (r10.1, r10.2))))))
noncomputable def sM_byHeart_L20 (M : jm_M) (p1 : Int32) (p2 : Int32) (s4 : Int32 × Int32) : Option ((Int32 × Int32) ⊕ (Int32)) :=
  (if (M 0 0 14) ≤ s4.2 then
  (some (.inr s4.1))
  else
  (jm_rd 10 (M 0 9) s4.2).bind (fun v6 =>
  (sM_has v6 p1).bind (fun r7 =>
  (if r7 = 0 then
  (some (s4.1 ||| 0)).bind (fun x9 =>
  (some (.inl (x9, s4.2 + 1))))
  else
  (jm_rd 10 (M 0 9) s4.2).bind (fun v10 =>
  (sM_has v10 p2).bind (fun r11 =>
  (if r11 = 0 then
  (some (s4.1 ||| 0)).bind (fun x13 =>
  (some (.inl (x13, s4.2 + 1))))
  else
  (some (s4.1 ||| ((1 : Int32) <<< ((s4.2 : Int32) &&& 31)))).bind (fun x14 =>
  (some (.inl (x14, s4.2 + 1)))))))))))
noncomputable def sM_byHeart (M : jm_M) (p1 : Int32) (p2 : Int32) : Option (Int32 × jm_M) :=
  (sM_areTwo M p1 p2).bind (fun r1 =>
  (if r1 = 0 then
  (sM_no M (-1)).bind (fun r3 =>
  (some (r3.1, r3.2)))
  else
  Option.bind (jm_loop (sM_byHeart_L20 M p1 p2) jm_N (0, 0)) (fun e15 =>
  (some (e15, M)))))
noncomputable def sM_kinds (M : jm_M) (p1 : Int32) : Option (Int32 × jm_M) :=
  (sM_isIn p1 0 7).bind (fun r1 =>
  (if r1 = 0 then
  (sM_no M (-2)).bind (fun r3 =>
  (some (r3.1, r3.2)))
  else
  (sM_manyIn M (0, 5) (M 0 0 14) p1).bind (fun r4 =>
  (some (r4, M)))))
noncomputable def sM_row (M : jm_M) (p1 : Int32) : Option (Int32 × jm_M) :=
  (sM_bound p1 (-99) 99).bind (fun r1 =>
  Option.bind (α := Int32) ((if r1 = 0 then
  (if (M 0 0 41) = 12 then
  (some (-6))
  else
  (some r1))
  else
  (some r1))) (fun e2 =>
  (if e2 = 0 then
  (jm_wa 12 M 0 41 (M 0 0 41) p1).bind (fun M6 =>
  (jm_wf M6 0 41 ((M6 0 0 41) + 1)).bind (fun M7 =>
  (some (M7 0 0 41, M7))))
  else
  (sM_no M e2).bind (fun r8 =>
  (some (r8.1, r8.2))))))
noncomputable def sM_judge_L12 (x1 : Int32) (M2 : jm_M) (s3 : Int32) : Option ((Int32) ⊕ (Unit ⊕ (Int32 × jm_M))) :=
  (if x1 ≤ s3 then
  (some (.inr (.inl ())))
  else
  (sM_isPerson M2 s3).bind (fun r5 =>
  (if r5 = 0 then
  (some (.inr (.inr (s3, M2))))
  else
  (jm_rd 6 (M2 0 2) s3).bind (fun v7 =>
  (jm_rd 12 (M2 0 41) s3).bind (fun v8 =>
  (if v7 = v8 then
  (some (.inl (s3 + 1)))
  else
  (some (.inr (.inr (s3, M2))))))))))
noncomputable def sM_judge (M : jm_M) : Option (Int32 × jm_M) :=
  (some (M 0 0 41)).bind (fun x1 =>
  (jm_wf M 0 41 0).bind (fun M2 =>
  Option.bind (jm_loop (sM_judge_L12 x1 M2) jm_N 0) (Sum.elim (fun e10 =>
  (some ((-9), M2))) some)))
noncomputable def sM_clear (M : jm_M) : Option (Int32 × jm_M) :=
  (some (M 0 0 41)).bind (fun x1 =>
  (jm_wf M 0 41 0).bind (fun M2 =>
  (some (x1, M2))))
noncomputable def sM_draw (M : jm_M) (p1 : Int32) : Option (Int32 × jm_M) :=
  (jm_wf M 0 43 (((M 0 0 43) * 1103515245) + 12345)).bind (fun M1 =>
  (jm_dv ((M1 0 0 43) &&& 2147483647) 65536).bind (fun v2 =>
  (jm_rm v2 p1).bind (fun v3 =>
  (some (v3, M1)))))
noncomputable def sM_allRead_L4 (M : jm_M) (s1 : Int32 × Int32) : Option ((Int32 × Int32) ⊕ (Int32)) :=
  (if (M 0 0 14) ≤ s1.2 then
  (some (.inr s1.1))
  else
  (jm_rd 10 (M 0 9) s1.2).bind (fun v3 =>
  (sM_bits v3).bind (fun r4 =>
  (some (s1.1 + r4)).bind (fun x5 =>
  (some (.inl (x5, s1.2 + 1)))))))
noncomputable def sM_allRead (M : jm_M) : Option (Int32) :=
  Option.bind (jm_loop (sM_allRead_L4 M) jm_N (0, 0)) (fun e6 =>
  (some e6))
noncomputable def sM_manyDown_L16 (M : jm_M) (s1 : Int32 × Int32) (s4 : Int32 × Int32) : Option ((Int32 × Int32) ⊕ (Int32)) :=
  (if (M 0 0 13) ≤ s4.2 then
  (some (.inr s4.1))
  else
  (sM_comesDown M s1.2 s4.2).bind (fun r6 =>
  (if r6 = 0 then
  (some (s4.1 + 0)).bind (fun x8 =>
  (some (.inl (x8, s4.2 + 1))))
  else
  (some (s4.1 + 1)).bind (fun x9 =>
  (some (.inl (x9, s4.2 + 1)))))))
noncomputable def sM_manyDown_L4 (M : jm_M) (s1 : Int32 × Int32) : Option ((Int32 × Int32) ⊕ (Int32)) :=
  (if (M 0 0 13) ≤ s1.2 then
  (some (.inr s1.1))
  else
  (some (s1.2 + 1)).bind (fun x3 =>
  Option.bind (jm_loop (sM_manyDown_L16 M s1) jm_N (s1.1, x3)) (fun e10 =>
  (some (.inl (e10, s1.2 + 1))))))
noncomputable def sM_manyDown (M : jm_M) : Option (Int32) :=
  Option.bind (jm_loop (sM_manyDown_L4 M) jm_N (0, 0)) (fun e11 =>
  (some e11))
noncomputable def sM_lots_L77  (s14 : Int32 × jm_M) : Option ((Int32 × jm_M) ⊕ (jm_M)) :=
  (if (s14.2 0 0 14) ≤ s14.1 then
  (some (.inr s14.2))
  else
  Option.bind (α := Int32 × jm_M) ((if (s14.2 0 0 13) = 0 then
  (some (9, s14.2))
  else
  (sM_draw s14.2 (s14.2 0 0 13)).bind (fun r18 =>
  (some (r18.1, r18.2))))) (fun e16 =>
  (jm_wa 10 e16.2 0 8 s14.1 e16.1).bind (fun M19 =>
  (some (.inl (s14.1 + 1, M19))))))
noncomputable def sM_lots_L50 (p1 : Int32) (p3 : Int32) (s8 : Int32 × Int32 × jm_M) : Option ((Int32 × Int32 × jm_M) ⊕ (Int32 × jm_M)) :=
  (if p1 ≤ s8.2.1 then
  (some (.inr (s8.1, s8.2.2)))
  else
  Option.bind (α := Int32) ((if p3 = 0 then
  (sM_allRead s8.2.2).bind (fun r12 =>
  (some r12))
  else
  (some 0))) (fun e10 =>
  (sM_minds s8.2.2).bind (fun r13 =>
  Option.bind (jm_loop (sM_lots_L77) jm_N (0, r13)) (fun e20 =>
  (sM_goes e20 8).bind (fun r21 =>
  Option.bind (α := Int32) ((if p3 = 0 then
  (sM_allRead r21).bind (fun r24 =>
  (some r24))
  else
  (sM_manyDown r21).bind (fun r25 =>
  (some r25)))) (fun e22 =>
  (some (s8.1 + (e22 - e10))).bind (fun x26 =>
  (sM_forgets r21).bind (fun r27 =>
  (some (.inl (x26, s8.2.1 + 1, r27)))))))))))
noncomputable def sM_lots (M : jm_M) (p1 : Int32) (p2 : Int32) (p3 : Int32) : Option (Int32 × jm_M) :=
  (sM_bound p1 1 20).bind (fun r1 =>
  Option.bind (α := Int32) ((if r1 = 0 then
  (sM_isIn p3 0 1).bind (fun r4 =>
  (if r4 = 0 then
  (some (-2))
  else
  (some r1)))
  else
  (some r1))) (fun e2 =>
  (if e2 = 0 then
  (jm_wf M 0 43 p2).bind (fun M7 =>
  Option.bind (jm_loop (sM_lots_L50 p1 p3) jm_N (0, 0, M7)) (fun e28 =>
  (some (e28.1, e28.2))))
  else
  (sM_no M e2).bind (fun r29 =>
  (some (r29.1, r29.2))))))
noncomputable def sM_allWeights_L4 (M : jm_M) (s1 : Int32 × Int32) : Option ((Int32 × Int32) ⊕ (Int32)) :=
  (if (M 0 0 13) ≤ s1.2 then
  (some (.inr s1.1))
  else
  (jm_rd 6 (M 0 2) s1.2).bind (fun v3 =>
  (some (s1.1 + v3)).bind (fun x4 =>
  (some (.inl (x4, s1.2 + 1))))))
noncomputable def sM_allWeights (M : jm_M) : Option (Int32) :=
  Option.bind (jm_loop (sM_allWeights_L4 M) jm_N (0, 0)) (fun e5 =>
  (some e5))
noncomputable def sM_count (M : jm_M) (p1 : Int32) : Option (Int32) :=
  (sM_isIn p1 11 16).bind (fun r1 =>
  (if r1 = 0 then
  (if p1 = 0 then
  (some (M 0 0 13))
  else
  (if p1 = 1 then
  (some (M 0 0 14))
  else
  (if p1 = 2 then
  (some (M 0 0 15))
  else
  (if p1 = 3 then
  (some (M 0 0 16))
  else
  (if p1 = 4 then
  (sM_allWeights M).bind (fun r8 =>
  (some r8))
  else
  (if p1 = 5 then
  (some (M 0 0 26))
  else
  (if p1 = 6 then
  (some (M 0 0 41))
  else
  (if p1 = 7 then
  (some (M 0 0 36))
  else
  (if p1 = 8 then
  (sM_manyDown M).bind (fun r13 =>
  (some r13))
  else
  (some (-9)))))))))))
  else
  (jm_rd 7 (M 0 1) (p1 - 10)).bind (fun v14 =>
  (some v14))))
