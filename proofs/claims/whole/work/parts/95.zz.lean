/-! .. the calls as dec.py writes them -/
section
variable {need k : Nat} {pc : Nat} {lv : mj_L} {st : List Value} {s : Nat} {t : mw_T}
theorem mw_cI {α : Type} {em : α → Option Value} {need' k' : Nat} {lv' : mj_L} {r' : mw_X Int32} {g : Int32 → mw_T → mw_X α} (nx : Nat) (as rest : List Value) (h : (mj_ca k (pc, lv, st, mw_E s t), mj_vi k pc, mj_hd k, pc + 3, lv_args 0 as) = (some (k', as, rest), true, [], nx, lv')) (hc : mw_W (mw_d3 mw_eI s) need' k' (0, lv', [], mw_E s t) r') (hn : need' + 1 ≤ need) (hg : ∀ v t', mw_W (mw_d3 em s) need k (nx, lv, .int v :: rest, mw_E s t') (g v t')) : mw_W (mw_d3 em s) need k (pc, lv, st, mw_E s t) (mw_b r' g) := by
  simp only [Prod.mk.injEq] at h
  obtain ⟨h1, h2, h3, rfl, h4⟩ := h
  exact mw_cg as rest h1 h2 h3 h4 hc hn hg
theorem mw_cIs {α : Type} {em : α → Option Value} {need' k' : Nat} {lv' : mj_L} {r' : mw_X Int32} {g : Int32 → mw_T → mw_X α} (nx : Nat) (as rest : List Value) (h : (mj_ca k (pc, lv, st, mw_E s t), pc + 3, lv_args 0 as) = (some (k', as, rest), nx, lv')) (hc : mw_W (mw_d3 mw_eI s) need' k' (0, lv', [], mw_E s t) r') (hn : need' + 1 ≤ need) (hg : ∀ v t', mw_W (mw_d3 em s) need k (nx, lv, .int v :: rest, mw_E s t') (g v t')) : mw_W (mw_d3 em s) need k (pc, lv, st, mw_E s t) (mw_bs r' g) := by
  simp only [Prod.mk.injEq] at h
  obtain ⟨h1, rfl, h4⟩ := h
  exact mw_cgs as rest h1 h4 hc hn hg
theorem mw_c4I {α : Type} {em : α → Option Value} {need' k' : Nat} {lv' : mj_L} {r' : mw_X Int32} {g : Int32 → mw_T → mw_Y α} (nx : Nat) (as rest : List Value) (h : (mj_ca k (pc, lv, st, mw_E s t), mj_vi k pc, mj_hd k, pc + 3, lv_args 0 as) = (some (k', as, rest), true, [], nx, lv')) (hc : mw_W (mw_d3 mw_eI s) need' k' (0, lv', [], mw_E s t) r') (hn : need' + 1 ≤ need) (hg : ∀ v t', mw_W (mw_d4 em) need k (nx, lv, .int v :: rest, mw_E s t') (g v t')) : mw_W (mw_d4 em) need k (pc, lv, st, mw_E s t) (mw_b4 s r' g) := by
  simp only [Prod.mk.injEq] at h
  obtain ⟨h1, h2, h3, rfl, h4⟩ := h
  exact mw_cg4 as rest h1 h2 h3 h4 hc hn hg
theorem mw_c4Is {α : Type} {em : α → Option Value} {need' k' : Nat} {lv' : mj_L} {r' : mw_X Int32} {g : Int32 → mw_T → mw_Y α} (nx : Nat) (as rest : List Value) (h : (mj_ca k (pc, lv, st, mw_E s t), pc + 3, lv_args 0 as) = (some (k', as, rest), nx, lv')) (hc : mw_W (mw_d3 mw_eI s) need' k' (0, lv', [], mw_E s t) r') (hn : need' + 1 ≤ need) (hg : ∀ v t', mw_W (mw_d4 em) need k (nx, lv, .int v :: rest, mw_E s t') (g v t')) : mw_W (mw_d4 em) need k (pc, lv, st, mw_E s t) (mw_b4s s r' g) := by
  simp only [Prod.mk.injEq] at h
  obtain ⟨h1, rfl, h4⟩ := h
  exact mw_cg4s as rest h1 h4 hc hn hg
theorem mw_c44I {α : Type} {em : α → Option Value} {need' k' : Nat} {lv' : mj_L} {r' : mw_Y Int32} {g : Int32 → Nat → mw_T → mw_Y α} (nx : Nat) (as rest : List Value) (h : (mj_ca k (pc, lv, st, mw_E s t), pc + 3, lv_args 0 as) = (some (k', as, rest), nx, lv')) (hc : mw_W (mw_d4 mw_eI) need' k' (0, lv', [], mw_E s t) r') (hn : need' + 1 ≤ need) (hg : ∀ v s' t', mw_W (mw_d4 em) need k (nx, lv, .int v :: rest, mw_E s' t') (g v s' t')) : mw_W (mw_d4 em) need k (pc, lv, st, mw_E s t) (mw_b44 r' g) := by
  simp only [Prod.mk.injEq] at h
  obtain ⟨h1, rfl, h4⟩ := h
  exact mw_c44 as rest h1 h4 hc hn hg
theorem mw_T3I {α : Type} {em : α → Option Value} {need' k' : Nat} {lv' : mj_L} {r' : mw_X Int32} {g : Int32 → mw_T → mw_X α} {x : Nat → mw_T → mw_X α} (nx : Nat) (as rest : List Value) (h : (mj_ca k (pc, lv, st, mw_E s t), mj_vi k pc, pc + 3, lv_args 0 as) = (some (k', as, rest), true, nx, lv')) (hc : mw_W (mw_d3 mw_eI s) need' k' (0, lv', [], mw_E s t) r') (hn : need' + 1 ≤ need) (hg : ∀ v t', mw_W (mw_d3 em s) need k (nx, lv, .int v :: rest, mw_E s t') (g v t')) (hx : ∀ q t', mw_H (mw_d3 em s) need k pc lv (mw_E s t') q (x q t')) : mw_W (mw_d3 em s) need k (pc, lv, st, mw_E s t) (mw_t r' g x) := by
  simp only [Prod.mk.injEq] at h
  obtain ⟨h1, h2, rfl, h4⟩ := h
  exact mw_tg as rest h1 h2 h4 hc hn hg hx
theorem mw_T4I {α : Type} {em : α → Option Value} {need' k' : Nat} {lv' : mj_L} {r' : mw_Y Int32} {g : Int32 → Nat → mw_T → mw_Y α} {x : Nat → Nat → mw_T → mw_Y α} (nx : Nat) (as rest : List Value) (h : (mj_ca k (pc, lv, st, mw_E s t), mj_vi k pc, pc + 3, lv_args 0 as) = (some (k', as, rest), true, nx, lv')) (hc : mw_W (mw_d4 mw_eI) need' k' (0, lv', [], mw_E s t) r') (hn : need' + 1 ≤ need) (hg : ∀ v s' t', mw_W (mw_d4 em) need k (nx, lv, .int v :: rest, mw_E s' t') (g v s' t')) (hx : ∀ q s' t', mw_H (mw_d4 em) need k pc lv (mw_E s' t') q (x q s' t')) : mw_W (mw_d4 em) need k (pc, lv, st, mw_E s t) (mw_t4 r' g x) := by
  simp only [Prod.mk.injEq] at h
  obtain ⟨h1, h2, rfl, h4⟩ := h
  exact mw_tg4 as rest h1 h2 h4 hc hn hg hx
theorem mw_cJ {α : Type} {em : α → Option Value} {need' k' : Nat} {lv' : mj_L} {r' : mw_X Int64} {g : Int64 → mw_T → mw_X α} (nx : Nat) (as rest : List Value) (h : (mj_ca k (pc, lv, st, mw_E s t), mj_vi k pc, mj_hd k, pc + 3, lv_args 0 as) = (some (k', as, rest), true, [], nx, lv')) (hc : mw_W (mw_d3 mw_eL s) need' k' (0, lv', [], mw_E s t) r') (hn : need' + 1 ≤ need) (hg : ∀ v t', mw_W (mw_d3 em s) need k (nx, lv, .long v :: rest, mw_E s t') (g v t')) : mw_W (mw_d3 em s) need k (pc, lv, st, mw_E s t) (mw_b r' g) := by
  simp only [Prod.mk.injEq] at h
  obtain ⟨h1, h2, h3, rfl, h4⟩ := h
  exact mw_cg as rest h1 h2 h3 h4 hc hn hg
theorem mw_cJs {α : Type} {em : α → Option Value} {need' k' : Nat} {lv' : mj_L} {r' : mw_X Int64} {g : Int64 → mw_T → mw_X α} (nx : Nat) (as rest : List Value) (h : (mj_ca k (pc, lv, st, mw_E s t), pc + 3, lv_args 0 as) = (some (k', as, rest), nx, lv')) (hc : mw_W (mw_d3 mw_eL s) need' k' (0, lv', [], mw_E s t) r') (hn : need' + 1 ≤ need) (hg : ∀ v t', mw_W (mw_d3 em s) need k (nx, lv, .long v :: rest, mw_E s t') (g v t')) : mw_W (mw_d3 em s) need k (pc, lv, st, mw_E s t) (mw_bs r' g) := by
  simp only [Prod.mk.injEq] at h
  obtain ⟨h1, rfl, h4⟩ := h
  exact mw_cgs as rest h1 h4 hc hn hg
theorem mw_c4J {α : Type} {em : α → Option Value} {need' k' : Nat} {lv' : mj_L} {r' : mw_X Int64} {g : Int64 → mw_T → mw_Y α} (nx : Nat) (as rest : List Value) (h : (mj_ca k (pc, lv, st, mw_E s t), mj_vi k pc, mj_hd k, pc + 3, lv_args 0 as) = (some (k', as, rest), true, [], nx, lv')) (hc : mw_W (mw_d3 mw_eL s) need' k' (0, lv', [], mw_E s t) r') (hn : need' + 1 ≤ need) (hg : ∀ v t', mw_W (mw_d4 em) need k (nx, lv, .long v :: rest, mw_E s t') (g v t')) : mw_W (mw_d4 em) need k (pc, lv, st, mw_E s t) (mw_b4 s r' g) := by
  simp only [Prod.mk.injEq] at h
  obtain ⟨h1, h2, h3, rfl, h4⟩ := h
  exact mw_cg4 as rest h1 h2 h3 h4 hc hn hg
theorem mw_c4Js {α : Type} {em : α → Option Value} {need' k' : Nat} {lv' : mj_L} {r' : mw_X Int64} {g : Int64 → mw_T → mw_Y α} (nx : Nat) (as rest : List Value) (h : (mj_ca k (pc, lv, st, mw_E s t), pc + 3, lv_args 0 as) = (some (k', as, rest), nx, lv')) (hc : mw_W (mw_d3 mw_eL s) need' k' (0, lv', [], mw_E s t) r') (hn : need' + 1 ≤ need) (hg : ∀ v t', mw_W (mw_d4 em) need k (nx, lv, .long v :: rest, mw_E s t') (g v t')) : mw_W (mw_d4 em) need k (pc, lv, st, mw_E s t) (mw_b4s s r' g) := by
  simp only [Prod.mk.injEq] at h
  obtain ⟨h1, rfl, h4⟩ := h
  exact mw_cg4s as rest h1 h4 hc hn hg
theorem mw_c44J {α : Type} {em : α → Option Value} {need' k' : Nat} {lv' : mj_L} {r' : mw_Y Int64} {g : Int64 → Nat → mw_T → mw_Y α} (nx : Nat) (as rest : List Value) (h : (mj_ca k (pc, lv, st, mw_E s t), pc + 3, lv_args 0 as) = (some (k', as, rest), nx, lv')) (hc : mw_W (mw_d4 mw_eL) need' k' (0, lv', [], mw_E s t) r') (hn : need' + 1 ≤ need) (hg : ∀ v s' t', mw_W (mw_d4 em) need k (nx, lv, .long v :: rest, mw_E s' t') (g v s' t')) : mw_W (mw_d4 em) need k (pc, lv, st, mw_E s t) (mw_b44 r' g) := by
  simp only [Prod.mk.injEq] at h
  obtain ⟨h1, rfl, h4⟩ := h
  exact mw_c44 as rest h1 h4 hc hn hg
theorem mw_T3J {α : Type} {em : α → Option Value} {need' k' : Nat} {lv' : mj_L} {r' : mw_X Int64} {g : Int64 → mw_T → mw_X α} {x : Nat → mw_T → mw_X α} (nx : Nat) (as rest : List Value) (h : (mj_ca k (pc, lv, st, mw_E s t), mj_vi k pc, pc + 3, lv_args 0 as) = (some (k', as, rest), true, nx, lv')) (hc : mw_W (mw_d3 mw_eL s) need' k' (0, lv', [], mw_E s t) r') (hn : need' + 1 ≤ need) (hg : ∀ v t', mw_W (mw_d3 em s) need k (nx, lv, .long v :: rest, mw_E s t') (g v t')) (hx : ∀ q t', mw_H (mw_d3 em s) need k pc lv (mw_E s t') q (x q t')) : mw_W (mw_d3 em s) need k (pc, lv, st, mw_E s t) (mw_t r' g x) := by
  simp only [Prod.mk.injEq] at h
  obtain ⟨h1, h2, rfl, h4⟩ := h
  exact mw_tg as rest h1 h2 h4 hc hn hg hx
theorem mw_T4J {α : Type} {em : α → Option Value} {need' k' : Nat} {lv' : mj_L} {r' : mw_Y Int64} {g : Int64 → Nat → mw_T → mw_Y α} {x : Nat → Nat → mw_T → mw_Y α} (nx : Nat) (as rest : List Value) (h : (mj_ca k (pc, lv, st, mw_E s t), mj_vi k pc, pc + 3, lv_args 0 as) = (some (k', as, rest), true, nx, lv')) (hc : mw_W (mw_d4 mw_eL) need' k' (0, lv', [], mw_E s t) r') (hn : need' + 1 ≤ need) (hg : ∀ v s' t', mw_W (mw_d4 em) need k (nx, lv, .long v :: rest, mw_E s' t') (g v s' t')) (hx : ∀ q s' t', mw_H (mw_d4 em) need k pc lv (mw_E s' t') q (x q s' t')) : mw_W (mw_d4 em) need k (pc, lv, st, mw_E s t) (mw_t4 r' g x) := by
  simp only [Prod.mk.injEq] at h
  obtain ⟨h1, h2, rfl, h4⟩ := h
  exact mw_tg4 as rest h1 h2 h4 hc hn hg hx
theorem mw_cV {α : Type} {em : α → Option Value} {need' k' : Nat} {lv' : mj_L} {r' : mw_X Unit} {g : Unit → mw_T → mw_X α} (nx : Nat) (as rest : List Value) (h : (mj_ca k (pc, lv, st, mw_E s t), mj_vi k pc, mj_hd k, pc + 3, lv_args 0 as) = (some (k', as, rest), true, [], nx, lv')) (hc : mw_W (mw_d3 mw_eV s) need' k' (0, lv', [], mw_E s t) r') (hn : need' + 1 ≤ need) (hg : ∀ v t', mw_W (mw_d3 em s) need k (nx, lv, rest, mw_E s t') (g v t')) : mw_W (mw_d3 em s) need k (pc, lv, st, mw_E s t) (mw_b r' g) := by
  simp only [Prod.mk.injEq] at h
  obtain ⟨h1, h2, h3, rfl, h4⟩ := h
  exact mw_cg as rest h1 h2 h3 h4 hc hn hg
theorem mw_cVs {α : Type} {em : α → Option Value} {need' k' : Nat} {lv' : mj_L} {r' : mw_X Unit} {g : Unit → mw_T → mw_X α} (nx : Nat) (as rest : List Value) (h : (mj_ca k (pc, lv, st, mw_E s t), pc + 3, lv_args 0 as) = (some (k', as, rest), nx, lv')) (hc : mw_W (mw_d3 mw_eV s) need' k' (0, lv', [], mw_E s t) r') (hn : need' + 1 ≤ need) (hg : ∀ v t', mw_W (mw_d3 em s) need k (nx, lv, rest, mw_E s t') (g v t')) : mw_W (mw_d3 em s) need k (pc, lv, st, mw_E s t) (mw_bs r' g) := by
  simp only [Prod.mk.injEq] at h
  obtain ⟨h1, rfl, h4⟩ := h
  exact mw_cgs as rest h1 h4 hc hn hg
theorem mw_c4V {α : Type} {em : α → Option Value} {need' k' : Nat} {lv' : mj_L} {r' : mw_X Unit} {g : Unit → mw_T → mw_Y α} (nx : Nat) (as rest : List Value) (h : (mj_ca k (pc, lv, st, mw_E s t), mj_vi k pc, mj_hd k, pc + 3, lv_args 0 as) = (some (k', as, rest), true, [], nx, lv')) (hc : mw_W (mw_d3 mw_eV s) need' k' (0, lv', [], mw_E s t) r') (hn : need' + 1 ≤ need) (hg : ∀ v t', mw_W (mw_d4 em) need k (nx, lv, rest, mw_E s t') (g v t')) : mw_W (mw_d4 em) need k (pc, lv, st, mw_E s t) (mw_b4 s r' g) := by
  simp only [Prod.mk.injEq] at h
  obtain ⟨h1, h2, h3, rfl, h4⟩ := h
  exact mw_cg4 as rest h1 h2 h3 h4 hc hn hg
theorem mw_c4Vs {α : Type} {em : α → Option Value} {need' k' : Nat} {lv' : mj_L} {r' : mw_X Unit} {g : Unit → mw_T → mw_Y α} (nx : Nat) (as rest : List Value) (h : (mj_ca k (pc, lv, st, mw_E s t), pc + 3, lv_args 0 as) = (some (k', as, rest), nx, lv')) (hc : mw_W (mw_d3 mw_eV s) need' k' (0, lv', [], mw_E s t) r') (hn : need' + 1 ≤ need) (hg : ∀ v t', mw_W (mw_d4 em) need k (nx, lv, rest, mw_E s t') (g v t')) : mw_W (mw_d4 em) need k (pc, lv, st, mw_E s t) (mw_b4s s r' g) := by
  simp only [Prod.mk.injEq] at h
  obtain ⟨h1, rfl, h4⟩ := h
  exact mw_cg4s as rest h1 h4 hc hn hg
theorem mw_c44V {α : Type} {em : α → Option Value} {need' k' : Nat} {lv' : mj_L} {r' : mw_Y Unit} {g : Unit → Nat → mw_T → mw_Y α} (nx : Nat) (as rest : List Value) (h : (mj_ca k (pc, lv, st, mw_E s t), pc + 3, lv_args 0 as) = (some (k', as, rest), nx, lv')) (hc : mw_W (mw_d4 mw_eV) need' k' (0, lv', [], mw_E s t) r') (hn : need' + 1 ≤ need) (hg : ∀ v s' t', mw_W (mw_d4 em) need k (nx, lv, rest, mw_E s' t') (g v s' t')) : mw_W (mw_d4 em) need k (pc, lv, st, mw_E s t) (mw_b44 r' g) := by
  simp only [Prod.mk.injEq] at h
  obtain ⟨h1, rfl, h4⟩ := h
  exact mw_c44 as rest h1 h4 hc hn hg
theorem mw_T3V {α : Type} {em : α → Option Value} {need' k' : Nat} {lv' : mj_L} {r' : mw_X Unit} {g : Unit → mw_T → mw_X α} {x : Nat → mw_T → mw_X α} (nx : Nat) (as rest : List Value) (h : (mj_ca k (pc, lv, st, mw_E s t), mj_vi k pc, pc + 3, lv_args 0 as) = (some (k', as, rest), true, nx, lv')) (hc : mw_W (mw_d3 mw_eV s) need' k' (0, lv', [], mw_E s t) r') (hn : need' + 1 ≤ need) (hg : ∀ v t', mw_W (mw_d3 em s) need k (nx, lv, rest, mw_E s t') (g v t')) (hx : ∀ q t', mw_H (mw_d3 em s) need k pc lv (mw_E s t') q (x q t')) : mw_W (mw_d3 em s) need k (pc, lv, st, mw_E s t) (mw_t r' g x) := by
  simp only [Prod.mk.injEq] at h
  obtain ⟨h1, h2, rfl, h4⟩ := h
  exact mw_tg as rest h1 h2 h4 hc hn hg hx
theorem mw_T4V {α : Type} {em : α → Option Value} {need' k' : Nat} {lv' : mj_L} {r' : mw_Y Unit} {g : Unit → Nat → mw_T → mw_Y α} {x : Nat → Nat → mw_T → mw_Y α} (nx : Nat) (as rest : List Value) (h : (mj_ca k (pc, lv, st, mw_E s t), mj_vi k pc, pc + 3, lv_args 0 as) = (some (k', as, rest), true, nx, lv')) (hc : mw_W (mw_d4 mw_eV) need' k' (0, lv', [], mw_E s t) r') (hn : need' + 1 ≤ need) (hg : ∀ v s' t', mw_W (mw_d4 em) need k (nx, lv, rest, mw_E s' t') (g v s' t')) (hx : ∀ q s' t', mw_H (mw_d4 em) need k pc lv (mw_E s' t') q (x q s' t')) : mw_W (mw_d4 em) need k (pc, lv, st, mw_E s t) (mw_t4 r' g x) := by
  simp only [Prod.mk.injEq] at h
  obtain ⟨h1, h2, rfl, h4⟩ := h
  exact mw_tg4 as rest h1 h2 h4 hc hn hg hx
end
theorem mw_up {ρ : Type} {den : ρ → mj_R × mj_M} {need need' k : Nat} {c : mj_C} {r : Option ρ} (hn : need ≤ need') (h : mw_W den need k c r) : mw_W den need' k c r := fun d hd => h d (Nat.le_trans hn hd)
