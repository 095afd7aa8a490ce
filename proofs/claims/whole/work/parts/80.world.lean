/-! THE MINI MACHINE'S MEMORY IN THE HEAP: the world's cells as a list, and what a write does to it. -/
def mj_vm (rho : Nat → Nat) : Value → Value
  | .ref r => .ref (rho r)
  | .int x => .int x
  | .long x => .long x
  | .float x => .float x
  | .double x => .double x
  | .null => .null
  | v => v
def mj_fv (rho : Nat → Nat) (M : mj_M) (r ci : Nat) : List Value := (List.range (mj_fl ci).length).map (fun k => mj_vm rho (mj_rd M r k (mj_ft ci k)))
def mj_ce (cA : Nat → ClassId) (rho : Nat → Nat) (M : mj_M) (r : Nat) : va_E :=
  if (mj_sh r).1 = 0 then .inr ((mj_sh r).2.1, mj_fv rho M r (mj_sh r).2.1) else .inl (cA (mj_sh r).2.1, (mj_sh r).2.2, if (mj_sh r).2.1 = 1 then .inr (.inl (M.L r)) else .inl (M.I r))
def mj_ws (cA : Nat → ClassId) (rho : Nat → Nat) (M : mj_M) : va_W := (List.range M.nr).map (fun r => (rho r, mj_ce cA rho M r))
theorem mj_ws_len (cA : Nat → ClassId) (rho : Nat → Nat) (M : mj_M) : (mj_ws cA rho M).length = M.nr := by simp [mj_ws]
theorem mj_ws_at (cA : Nat → ClassId) (rho : Nat → Nat) (M : mj_M) {r : Nat} (h : r < M.nr) : (mj_ws cA rho M)[r]? = some (rho r, mj_ce cA rho M r) := by
  simp [mj_ws, h]
theorem mj_ws_ob {cA : Nat → ClassId} {rho : Nat → Nat} {M : mj_M} {r ci : Nat} (h : r < M.nr) (h0 : (mj_sh r).1 = 0) (h1 : (mj_sh r).2.1 = ci) : (mj_ws cA rho M)[r]? = some (rho r, .inr (ci, mj_fv rho M r ci)) := by
  rw [mj_ws_at cA rho M h]
  subst h1
  simp [mj_ce, h0]
theorem mj_ws_ai {cA : Nat → ClassId} {rho : Nat → Nat} {M : mj_M} {r t n : Nat} (h : r < M.nr) (h0 : mj_sh r = (1, t, n)) (ht : t ≠ 1) : (mj_ws cA rho M)[r]? = some (rho r, .inl (cA t, n, .inl (M.I r))) := by
  rw [mj_ws_at cA rho M h]
  simp [mj_ce, h0, ht]
theorem mj_ws_al {cA : Nat → ClassId} {rho : Nat → Nat} {M : mj_M} {r n : Nat} (h : r < M.nr) (h0 : mj_sh r = (1, 1, n)) : (mj_ws cA rho M)[r]? = some (rho r, .inl (cA 1, n, .inr (.inl (M.L r)))) := by
  rw [mj_ws_at cA rho M h]
  simp [mj_ce, h0]
theorem mj_fv_at {rho : Nat → Nat} {M : mj_M} {r ci k : Nat} (h : k < (mj_fl ci).length) : (mj_fv rho M r ci)[k]? = some (mj_vm rho (mj_rd M r k (mj_ft ci k))) := by
  simp [mj_fv, h]
theorem mj_fv_len {rho : Nat → Nat} {M : mj_M} {r ci : Nat} : (mj_fv rho M r ci).length = (mj_fl ci).length := by simp [mj_fv]
theorem mj_up_self {α : Type} (f : Nat → Nat → α) (r i : Nat) (v : α) : mj_up f r i v r i = v := by simp [mj_up]
theorem mj_up_ne {α : Type} (f : Nat → Nat → α) {r i r' i' : Nat} (v : α) (h : ¬ (r' = r ∧ i' = i)) : mj_up f r i v r' i' = f r' i' := by
  unfold mj_up
  by_cases h1 : r' = r
  · rw [if_pos h1, if_neg (fun h2 => h ⟨h1, h2⟩)]
  · rw [if_neg h1]
theorem mj_up_row {f : Nat → Nat → Int32} {r i : Nat} {v : Int32} : mj_up f r i v r = upd (f r) i v := by
  funext j
  simp [mj_up, upd]
theorem mj_up_rowL {f : Nat → Nat → Int64} {r i : Nat} {v : Int64} : mj_up f r i v r = vp_updL (f r) i v := by
  funext j
  simp [mj_up, vp_updL]
theorem mj_up_off {α : Type} {f : Nat → Nat → α} {r i r' : Nat} {v : α} (h : r' ≠ r) : mj_up f r i v r' = f r' := by
  funext j
  simp [mj_up, h]
/-- two memories that agree at a role give one cell -/
theorem mj_ce_congr {cA : Nat → ClassId} {rho rho' : Nat → Nat} {M M' : mj_M} {r : Nat} (hI : M.I r = M'.I r) (hL : M.L r = M'.L r) (hF : M.F r = M'.F r) (hr : ∀ k q, M.F r k = some q → rho q = rho' q) : mj_ce cA rho M r = mj_ce cA rho' M' r := by
  have hrd : ∀ k ty, mj_vm rho (mj_rd M r k ty) = mj_vm rho' (mj_rd M' r k ty) := by
    intro k ty
    have e : M'.F r k = M.F r k := by rw [hF]
    cases ty <;> simp only [mj_rd, mj_vm, hI, hL, e] <;> (cases hq : M.F r k <;> simp only [mj_vm] <;> (try rw [hr k _ hq]))
  unfold mj_ce mj_fv
  simp only [hrd, hI, hL]
theorem mj_ws_congr {cA : Nat → ClassId} {rho rho' : Nat → Nat} {M M' : mj_M} (hn : M.nr = M'.nr) (hI : M.I = M'.I) (hL : M.L = M'.L) (hF : M.F = M'.F) (h1 : ∀ r, r < M.nr → rho r = rho' r) (hr : ∀ r k q, M.F r k = some q → rho q = rho' q) : mj_ws cA rho M = mj_ws cA rho' M' := by
  unfold mj_ws
  rw [← hn]
  refine List.map_congr_left fun r hr0 => ?_
  rw [h1 r (List.mem_range.mp hr0), mj_ce_congr (congrFun hI r) (congrFun hL r) (congrFun hF r) (hr r)]
/-- a list of the world with one cell set -/
theorem mj_ws_set {cA : Nat → ClassId} {rho : Nat → Nat} {M M' : mj_M} {r : Nat} {x : va_E} (hr : r < M.nr) (hn : M'.nr = M.nr) (hx : x = mj_ce cA rho M' r) (ho : ∀ r', r' ≠ r → mj_ce cA rho M' r' = mj_ce cA rho M r') : (mj_ws cA rho M).set r (rho r, x) = mj_ws cA rho M' := by
  refine List.ext_getElem? fun i => ?_
  by_cases hi : i < M.nr
  · rw [mj_ws_at cA rho M' (by omega)]
    by_cases h : i = r
    · subst h
      rw [List.getElem?_set_self (by rw [mj_ws_len]; exact hi), hx]
    · rw [List.getElem?_set_ne (fun h' => h h'.symm), mj_ws_at cA rho M hi, ho i h]
  · have h1 : (mj_ws cA rho M')[i]? = none := by rw [List.getElem?_eq_none_iff, mj_ws_len]; omega
    rw [h1, List.getElem?_eq_none_iff, List.length_set, mj_ws_len]
    omega
theorem mj_ws_seti {cA : Nat → ClassId} {rho : Nat → Nat} {M : mj_M} {r t n j : Nat} {x : Int32} (h : r < M.nr) (h0 : mj_sh r = (1, t, n)) (ht : t ≠ 1) : (mj_ws cA rho M).set r (rho r, .inl (cA t, n, .inl (upd (M.I r) j x))) = mj_ws cA rho (mj_up M.I r j x, M.L, M.F, M.nr, M.nc, M.ns) := by
  refine mj_ws_set h rfl ?_ fun r' hr => ?_
  · simp [mj_ce, h0, ht, mj_up_row, mj_M.I]
  · exact mj_ce_congr (mj_up_off hr) rfl rfl (fun _ _ _ => rfl)
theorem mj_ws_setl {cA : Nat → ClassId} {rho : Nat → Nat} {M : mj_M} {r n j : Nat} {x : Int64} (h : r < M.nr) (h0 : mj_sh r = (1, 1, n)) : (mj_ws cA rho M).set r (rho r, .inl (cA 1, n, .inr (.inl (vp_updL (M.L r) j x)))) = mj_ws cA rho (M.I, mj_up M.L r j x, M.F, M.nr, M.nc, M.ns) := by
  refine mj_ws_set h rfl ?_ fun r' hr => ?_
  · simp [mj_ce, h0, mj_up_rowL, mj_M.L]
  · exact mj_ce_congr rfl (mj_up_off hr) rfl (fun _ _ _ => rfl)
/-- what a field write leaves -/
theorem mj_wr_spec {M M' : mj_M} {r k : Nat} {ty : FieldType} {v : Value} (h : mj_wr M r k ty v = some M') : M'.nr = M.nr ∧ M'.nc = M.nc ∧ M'.ns = M.ns ∧ mj_rd M' r k ty = v ∧ (∀ r' k' ty', ¬ (r' = r ∧ k' = k) → mj_rd M' r' k' ty' = mj_rd M r' k' ty') ∧ (∀ r', r' ≠ r → M'.I r' = M.I r' ∧ M'.L r' = M.L r' ∧ M'.F r' = M.F r') ∧ narrow ty v = v ∧ fits ty v = true ∧ (∀ q, (v = .ref q → q < M.nr)) ∧ (∀ r' k' q, M'.F r' k' = some q → M.F r' k' = some q ∨ q < M.nr) := by
  unfold mj_wr at h
  split at h
  · cases h
    exact ⟨rfl, rfl, rfl, by simp [mj_rd, mj_up, mj_M.I, mj_M.L, mj_M.F], fun r' k' ty' hn => by cases ty' <;> simp [mj_rd, mj_M.I, mj_M.L, mj_M.F, mj_up_ne _ _ hn], fun r' hr => ⟨rfl, mj_up_off hr, rfl⟩, rfl, rfl, fun q hq => (by cases hq), fun r' k' q hq => Or.inl hq⟩
  · cases h
    exact ⟨rfl, rfl, rfl, by simp [mj_rd, mj_up, mj_M.I, mj_M.L, mj_M.F], fun r' k' ty' hn => by cases ty' <;> simp [mj_rd, mj_M.I, mj_M.L, mj_M.F, mj_up_ne _ _ hn], fun r' hr => ⟨mj_up_off hr, rfl, rfl⟩, rfl, rfl, fun q hq => (by cases hq), fun r' k' q hq => Or.inl hq⟩
  · rename_i x
    by_cases hx : x = 0 ∨ x = 1
    · rw [if_pos hx] at h
      cases h
      exact ⟨rfl, rfl, rfl, by simp [mj_rd, mj_up, mj_M.I, mj_M.L, mj_M.F], fun r' k' ty' hn => by cases ty' <;> simp [mj_rd, mj_M.I, mj_M.L, mj_M.F, mj_up_ne _ _ hn], fun r' hr => ⟨mj_up_off hr, rfl, rfl⟩, by rcases hx with rfl | rfl <;> decide +kernel, by rcases hx with rfl | rfl <;> decide +kernel, fun q hq => (by cases hq), fun r' k' q hq => Or.inl hq⟩
    · rw [if_neg hx] at h; cases h
  · rename_i q0
    cases hb : Nat.blt q0 M.nr with
    | false => rw [hb] at h; cases h
    | true =>
      rw [hb] at h
      cases h
      have hlt : q0 < M.nr := by simpa [Nat.blt_eq] using hb
      refine ⟨rfl, rfl, rfl, by simp [mj_rd, mj_up, mj_M.I, mj_M.L, mj_M.F], fun r' k' ty' hn => by cases ty' <;> simp [mj_rd, mj_M.I, mj_M.L, mj_M.F, mj_up_ne _ _ hn], fun r' hr => ⟨rfl, rfl, mj_up_off hr⟩, rfl, rfl, fun q hq => (by cases hq; exact hlt), fun r' k' q hq => ?_⟩
      by_cases hn : r' = r ∧ k' = k
      · obtain ⟨rfl, rfl⟩ := hn
        have : some q0 = some q := by rw [← hq]; exact (mj_up_self _ _ _ _).symm
        cases this
        exact Or.inr hlt
      · exact Or.inl (by rw [← hq]; exact (mj_up_ne _ _ hn).symm)
  · rename_i q0
    cases hb : Nat.blt q0 M.nr with
    | false => rw [hb] at h; cases h
    | true =>
      rw [hb] at h
      cases h
      have hlt : q0 < M.nr := by simpa [Nat.blt_eq] using hb
      refine ⟨rfl, rfl, rfl, by simp [mj_rd, mj_up, mj_M.I, mj_M.L, mj_M.F], fun r' k' ty' hn => by cases ty' <;> simp [mj_rd, mj_M.I, mj_M.L, mj_M.F, mj_up_ne _ _ hn], fun r' hr => ⟨rfl, rfl, mj_up_off hr⟩, rfl, rfl, fun q hq => (by cases hq; exact hlt), fun r' k' q hq => ?_⟩
      by_cases hn : r' = r ∧ k' = k
      · obtain ⟨rfl, rfl⟩ := hn
        have : some q0 = some q := by rw [← hq]; exact (mj_up_self _ _ _ _).symm
        cases this
        exact Or.inr hlt
      · exact Or.inl (by rw [← hq]; exact (mj_up_ne _ _ hn).symm)
  · cases h
/-- a field written: the world's list -/
theorem mj_ws_setf {cA : Nat → ClassId} {rho : Nat → Nat} {M M' : mj_M} {r ci k : Nat} {v : Value} (hr : r < M.nr) (h0 : (mj_sh r).1 = 0) (h1 : (mj_sh r).2.1 = ci) (hk : k < (mj_fl ci).length) (h : mj_wr M r k (mj_ft ci k) v = some M') :
    (mj_ws cA rho M).set r (rho r, .inr (ci, (mj_fv rho M r ci).set k (mj_vm rho v))) = mj_ws cA rho M' := by
  obtain ⟨a1, a2, a3, a4, a5, a6, -, -, -, -⟩ := mj_wr_spec h
  refine mj_ws_set hr a1 ?_ fun r' hr' => mj_ce_congr (a6 r' hr').1 (a6 r' hr').2.1 (a6 r' hr').2.2 (fun _ _ _ => rfl)
  subst h1
  simp only [mj_ce, h0, if_pos]
  congr 1
  congr 1
  refine List.ext_getElem? fun i => ?_
  by_cases hi : i < (mj_fl (mj_sh r).2.1).length
  · rw [mj_fv_at hi]
    by_cases hik : i = k
    · subst hik
      rw [List.getElem?_set_self (by rw [mj_fv_len]; exact hi), a4]
    · rw [List.getElem?_set_ne (fun h' => hik h'.symm), mj_fv_at hi, a5 r i _ (fun hh => hik hh.2)]
  · rw [List.getElem?_eq_none_iff.mpr (by rw [List.length_set, mj_fv_len]; omega), List.getElem?_eq_none_iff.mpr (by rw [mj_fv_len]; omega)]
