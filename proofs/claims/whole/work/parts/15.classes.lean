def mj_CF (ci : Nat) : Prop := Cond.initialized (mj_cn ci) ∈ mj_GT ∧ Cond.instantiable (mj_cn ci) (mj_fl ci).length ∈ mj_GT ∧ (∀ w ∈ u_ws (mj_cn ci) (mj_T ci) (mj_fl ci).length, w ∈ mj_GT) ∧ (∀ k, k < (mj_fl ci).length → parseFieldDescriptor (mj_T ci k).2.2.1 = some (mj_ft ci k)) ∧ (∀ a, a < (mj_fl ci).length → ∀ b, b < (mj_fl ci).length → a ≠ b → (mj_T ci a).2.1 ≠ (mj_T ci b).2.1)
theorem mj_wsl {C : String} {T : u_T} {N : Nat} (is : List Nat) (h : u_ws C T N = is.filterMap (fun i => tables_1[i]?)) (hg : (u_ws C T N).all goodWord = true) : ∀ w ∈ u_ws C T N, w ∈ mj_GT := by
  intro w hw
  have h1 := List.all_eq_true.mp hg w hw
  rw [h] at hw
  obtain ⟨i, -, hi⟩ := List.mem_filterMap.mp hw
  exact mj_gt hi h1
set_option maxRecDepth 100000 in
theorem mj_cf0 : mj_CF 0 := ⟨mj_t1 (i := 11) rfl rfl, mj_t1 (i := 194) rfl rfl, mj_wsl [201, 203] (by decide +kernel) (by decide +kernel), by decide +kernel, by decide +kernel⟩
set_option maxRecDepth 100000 in
theorem mj_cf1 : mj_CF 1 := ⟨mj_t1 (i := 6) rfl rfl, mj_t1 (i := 87) rfl rfl, mj_wsl [230, 232, 234, 236] (by decide +kernel) (by decide +kernel), by decide +kernel, by decide +kernel⟩
set_option maxRecDepth 100000 in
theorem mj_cf2 : mj_CF 2 := ⟨mj_t1 (i := 12) rfl rfl, mj_t1 (i := 207) rfl rfl, mj_wsl [215, 217, 219] (by decide +kernel) (by decide +kernel), by decide +kernel, by decide +kernel⟩
set_option maxRecDepth 100000 in
theorem mj_cf3 : mj_CF 3 := ⟨mj_t1 (i := 5) rfl rfl, mj_t1 (i := 64) rfl rfl, mj_wsl [74, 76, 78, 80, 82] (by decide +kernel) (by decide +kernel), by decide +kernel, by decide +kernel⟩
set_option maxRecDepth 100000 in
theorem mj_cf4 : mj_CF 4 := ⟨mj_t1 (i := 4) rfl rfl, mj_t1 (i := 50) rfl rfl, mj_wsl [57, 59] (by decide +kernel) (by decide +kernel), by decide +kernel, by decide +kernel⟩
set_option maxRecDepth 100000 in
theorem mj_cf5 : mj_CF 5 := ⟨mj_t1 (i := 9) rfl rfl, mj_t1 (i := 159) rfl rfl, mj_wsl [184, 186, 188, 190] (by decide +kernel) (by decide +kernel), by decide +kernel, by decide +kernel⟩
set_option maxRecDepth 100000 in
theorem mj_cf6 : mj_CF 6 := ⟨mj_t1 (i := 8) rfl rfl, mj_t1 (i := 137) rfl rfl, mj_wsl [147, 149, 151, 153, 155] (by decide +kernel) (by decide +kernel), by decide +kernel, by decide +kernel⟩
set_option maxRecDepth 100000 in
theorem mj_cf7 : mj_CF 7 := ⟨mj_t1 (i := 3) rfl rfl, mj_t1 (i := 36) rfl rfl, mj_wsl [43, 45] (by decide +kernel) (by decide +kernel), by decide +kernel, by decide +kernel⟩
set_option maxRecDepth 100000 in
theorem mj_cf8 : mj_CF 8 := ⟨mj_t1 (i := 10) rfl rfl, mj_t1 (i := 165) rfl rfl, mj_wsl [173, 175, 177] (by decide +kernel) (by decide +kernel), by decide +kernel, by decide +kernel⟩
set_option maxRecDepth 100000 in
theorem mj_cf9 : mj_CF 9 := ⟨mj_t1 (i := 7) rfl rfl, mj_t1 (i := 93) rfl rfl, mj_wsl [119, 121, 123, 125, 127, 129, 131, 133] (by decide +kernel) (by decide +kernel), by decide +kernel, by decide +kernel⟩
set_option maxRecDepth 100000 in
theorem mj_cf10 : mj_CF 10 := ⟨mj_t1 (i := 1) rfl rfl, mj_t1 (i := 25) rfl rfl, mj_wsl [245, 247, 249, 251, 253, 255] (by decide +kernel) (by decide +kernel), by decide +kernel, by decide +kernel⟩
set_option maxRecDepth 100000 in
theorem mj_cf11 : mj_CF 11 := ⟨mj_t1 (i := 13) rfl rfl, mj_t4 (i := 215) rfl rfl, mj_wsl [996, 998, 1000, 1002, 1004, 1006, 1008, 1010, 1012, 1014, 1016, 1018, 1020, 1022, 1024, 1026, 1028, 1030, 1032, 1034, 1036, 1038, 1040, 1042, 1044, 1046, 1048, 1050, 1052, 1054, 1056, 1058, 1060, 1062, 1064, 1066, 1068, 1070, 1072, 1074, 1076, 1078, 1080, 1082, 1084, 1086, 1088, 1090, 1092, 1094, 1096, 1098, 1100, 1102, 1104, 1106, 1108] (by decide +kernel) (by decide +kernel), by decide +kernel, by decide +kernel⟩
theorem mj_CFall : ∀ ci, ci < 12 → mj_CF ci := fun ci h => match ci, h with
  | 0, _ => mj_cf0
  | 1, _ => mj_cf1
  | 2, _ => mj_cf2
  | 3, _ => mj_cf3
  | 4, _ => mj_cf4
  | 5, _ => mj_cf5
  | 6, _ => mj_cf6
  | 7, _ => mj_cf7
  | 8, _ => mj_cf8
  | 9, _ => mj_cf9
  | 10, _ => mj_cf10
  | 11, _ => mj_cf11
theorem mj_cls_at {ci : Nat} (h : ci < 12) : mj_cls[ci]? = some (mj_cn ci, mj_T ci, (mj_fl ci).length) := by
  simp [mj_cls, h]
theorem mj_T_at {ci k : Nat} {f : String × String × Bool × FieldType} (h : (mj_fl ci)[k]? = some f) : mj_T ci k = (mj_cn ci, f.1, f.2.1, f.2.2.1) := by
  simp [mj_T, h]
theorem mj_fl_lt {ci k : Nat} {f : String × String × Bool × FieldType} (h : (mj_fl ci)[k]? = some f) : k < (mj_fl ci).length := (List.getElem?_eq_some_iff.mp h).1
theorem mj_fk_use {oi i a b : Nat} (h : mj_fk.any (fun q => Nat.beq q.1 oi && (Nat.beq q.2.1 i && (Nat.beq q.2.2.1 a && Nat.beq q.2.2.2.1 b))) = true) : ∃ f : String × String × Bool × FieldType, (mj_fl a)[b]? = some f ∧ Cond.fieldLink (mj_cn oi) i (mj_cn a) f.1 f.2.1 ∈ mj_GT ∧ a < 12 := by
  obtain ⟨q, hq, h1⟩ := List.any_eq_true.mp h
  simp only [Bool.and_eq_true] at h1
  obtain ⟨h2, h3, h4, h5⟩ := h1
  have h6 := List.all_eq_true.mp mj_fk_all q hq
  have e2 := Nat.eq_of_beq_eq_true h2
  have e3 := Nat.eq_of_beq_eq_true h3
  have e4 := Nat.eq_of_beq_eq_true h4
  have e5 := Nat.eq_of_beq_eq_true h5
  subst e2 e3 e4 e5
  unfold mj_fkok at h6
  cases hf : (mj_fl q.2.2.1)[q.2.2.2.1]? with
  | none => simp [hf] at h6
  | some f =>
    simp only [hf, Bool.and_eq_true, decide_eq_true_eq] at h6
    exact ⟨f, rfl, mj_gt h6.1 rfl, by simpa [Nat.blt_eq] using h6.2.1⟩
theorem mj_ck_use {oi i a : Nat} (h : mj_ck.any (fun q => Nat.beq q.1 oi && (Nat.beq q.2.1 i && Nat.beq q.2.2.1 a)) = true) : Cond.classLink (mj_cn oi) i (mj_cn a) ∈ mj_GT ∧ a < 12 := by
  obtain ⟨q, hq, h1⟩ := List.any_eq_true.mp h
  simp only [Bool.and_eq_true] at h1
  obtain ⟨h2, h3, h4⟩ := h1
  have h6 := List.all_eq_true.mp mj_ck_all q hq
  have e2 := Nat.eq_of_beq_eq_true h2
  have e3 := Nat.eq_of_beq_eq_true h3
  have e4 := Nat.eq_of_beq_eq_true h4
  subst e2 e3 e4
  simp only [mj_ckok, Bool.and_eq_true, decide_eq_true_eq] at h6
  exact ⟨mj_gt h6.1 rfl, by simpa [Nat.blt_eq] using h6.2⟩
theorem mj_sh_in {r : Nat} (h : (mj_sh r).1 < 2) : r < 86 := by
  rcases Nat.lt_or_ge r 86 with h1 | h1
  · exact h1
  · have h2 : mj_sh r = (2, 0, 0) := by
      unfold mj_sh
      rw [List.getD_eq_getElem?_getD, List.getElem?_eq_none_iff.mpr (by simpa [mj_shs] using h1)]
      rfl
    rw [h2] at h
    exact absurd h (by decide)
theorem mj_sh_t : ∀ r, r < 86 → (mj_sh r).1 = 1 → (mj_sh r).2.1 < 4 ∧ (mj_sh r).2.2 < 1000 := by decide +kernel
theorem mj_ar : ∀ t, t < 4 → Cond.arrayClass (mj_aty t) ∈ mj_GT := fun t h => match t, h with
  | 0, _ => mj_t1 (i := 62) rfl rfl
  | 1, _ => mj_t1 (i := 85) rfl rfl
  | 2, _ => mj_t1 (i := 48) rfl rfl
  | 3, _ => mj_t5 (i := 151) rfl rfl
