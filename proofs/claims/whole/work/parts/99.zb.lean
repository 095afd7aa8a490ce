/-! EXCEPTIONS CAUGHT -/
theorem vx_catch {p : Program} {l : Launch} {e : Env} {R : Room} {s : State} {m : MethodId} {args : Array Value} {below : List Frame} {meth : Method} {c : Code} {H : Heap} {locs : List Loc} {cells slots : Nat} {ls : Array Slot} {rest : List Value} {Q : State → Prop} {pc : Nat} {own name : String} {E : String} {ce : Cell} {q : Addr} (hown : s.vm.findClass own = some m.cls) (pre : List ExceptionTableEntry) (x : ExceptionTableEntry) (suf : List ExceptionTableEntry) (hsplit : c.exceptionTable.toList = pre ++ x :: suf)
    (hpass : ∀ z ∈ pre, covers z pc = false ∨ (z.catchType ≠ 0 ∧ ∃ nm : String, (Cond.classLink own z.catchType nm).before args s = true ∧ va_Nc E nm s)) (hx : covers x pc = true) (h0 : x.catchType ≠ 0)
    (hlink : (Cond.classLink own x.catchType name).before args s = true) (hcast : (Cond.castable E name).before args s = true) (hcell : H[q]? = some ce) (hv : ce.vm = .none) (hcl : s.vm.findClass E = some ce.cls)
    (kk : W p l e R s m args below meth c H locs cells slots Q (F0 m x.handlerPc ls [.ref q])) : vx_W p l e R s m args below meth c H locs cells slots Q (F0 m pc ls rest) q := by
  intro T hT X
  have hpl : e.platform.magicAccessors = ({} : Platform).magicAccessors := by rw [X.admits.platform]
  obtain ⟨c3, c4, hc3, hc4, hasg⟩ := Cond.castable_spec hcast
  cases Option.some.inj (hc3.symm.trans hcl)
  obtain ⟨c5, hc5, hcl5⟩ := Cond.classLink_spec hown hlink e.platform hpl
  cases Option.some.inj (hc4.symm.trans hc5)
  obtain ⟨vm', X', st⟩ := Stand.thenCaughtThrough X q (g := F0 m pc ls rest) rfl (Steps.refl _) (by rw [hT]; exact hcell) (by rw [hv]; rfl) (by obtain ⟨k9, h9, -⟩ := Vm.findClass_spec hcl; exact ⟨k9, h9⟩) pre x suf hsplit
    (fun z hz => by
      rcases hpass z hz with h | ⟨hz0, nm, hl1, hn1⟩
      · exact Or.inl h
      · obtain ⟨c6, hc6, hcl6⟩ := Cond.classLink_spec hown hl1 e.platform hpl
        obtain ⟨a8, b8, h1, h2, h3⟩ := hn1
        cases Option.some.inj (h1.symm.trans hcl)
        cases Option.some.inj (h2.symm.trans hc6)
        exact Or.inr ⟨hz0, _, hcl6, h3⟩) hx (Or.inr ⟨h0, c4, hcl5, hasg⟩)
  obtain ⟨t, a1, b1⟩ := kk (T.setVm vm') hT X'
  exact ⟨t, st.trans a1, b1⟩
set_option maxRecDepth 20000 in
theorem mj_hk0 : Cond.classLink (mj_cn 12) 13 (mj_en 0) ∈ mj_GT := mj_t2 (i := 106) rfl rfl
set_option maxRecDepth 100000 in
theorem mj_hc0 : Cond.castable (mj_en 0) (mj_en 0) ∈ lw_tbl := by decide +kernel
set_option maxRecDepth 20000 in
theorem mj_hk1 : Cond.classLink (mj_cn 12) 15 (mj_en 1) ∈ mj_GT := mj_t2 (i := 107) rfl rfl
set_option maxRecDepth 100000 in
theorem mj_hc1 : Cond.castable (mj_en 1) (mj_en 1) ∈ lw_tbl := by decide +kernel
set_option maxRecDepth 20000 in
theorem mj_hk2 : Cond.classLink (mj_cn 12) 21 (mj_en 2) ∈ mj_GT := mj_t2 (i := 205) rfl rfl
set_option maxRecDepth 100000 in
theorem mj_hc2 : Cond.castable (mj_en 2) (mj_en 2) ∈ lw_tbl := by decide +kernel
theorem mj_covers {a b h t pc : Nat} (h1 : a ≤ pc) (h2 : pc < b) : covers ⟨a, b, h, t⟩ pc = true := by simp [covers, h1, h2]
theorem mj_catch (G : mj_G) (rho0 adV : Nat → Nat) : mj_CatchLaw (mj_Zs G rho0 adV) G := by
  intro k pc q hp X p l e R s m args below meth c Q H locs ls cells slots rest ce q9 hX hh hC hE hS h9 hv hcl kk
  obtain ⟨-, -, -, -, hown, hw, -, -, htab⟩ := hC
  obtain ⟨-, -, -, -, -, hz⟩ := hE
  have hb := hz.2.2.2.1
  have hnc := hz.2.2.2.2.2.2
  have lk0 := hw _ mj_hk0
  have lk1 := hw _ mj_hk1
  have lk2 := hw _ mj_hk2
  have ca0 : (Cond.castable (mj_en 0) (mj_en 0)).before args s = true := va_Nw.use rfl (hb _ mj_hc0 rfl)
  have ca1 : (Cond.castable (mj_en 1) (mj_en 1)).before args s = true := va_Nw.use rfl (hb _ mj_hc1 rfl)
  have ca2 : (Cond.castable (mj_en 2) (mj_en 2)).before args s = true := va_Nw.use rfl (hb _ mj_hc2 rfl)
  have n1 : va_Nc (mj_en 1) (mj_en 0) s := hnc _ (List.mem_cons_self ..)
  have n2 : va_Nc (mj_en 2) (mj_en 0) s := hnc _ (List.mem_cons_of_mem _ (List.mem_cons_self ..))
  unfold mj_hd at hh
  simp only [Bool.cond_eq_ite, Nat.beq_eq] at hh
  split at hh
  · subst k
    cases (show mj_mt 199 = some _ from rfl).symm.trans hX
    simp only [mj_hdl, Bool.cond_eq_ite, Bool.and_eq_true, Nat.ble_eq, Nat.blt_eq, Nat.beq_eq] at hh
    split at hh
    · rename_i h1
      obtain ⟨ha, hb1, rfl⟩ := h1
      cases hh
      exact vx_catch hown [] ⟨0, 11, 14, 13⟩ _ htab (fun z hz => absurd hz List.not_mem_nil) (mj_covers ha hb1) (by decide) lk0 ca0 h9 hv hcl kk
    · split at hh
      · rename_i h1
        obtain ⟨ha, hb1, rfl⟩ := h1
        cases hh
        exact vx_catch hown [⟨0, 11, 14, 13⟩] ⟨0, 11, 18, 15⟩ _ htab (fun z hz => by cases List.mem_singleton.mp hz; exact Or.inr ⟨by decide, _, lk0, n1⟩) (mj_covers ha hb1) (by decide) lk1 ca1 h9 hv hcl kk
      · cases hh
  · split at hh
    · subst k
      cases (show mj_mt 200 = some _ from rfl).symm.trans hX
      simp only [mj_hdl, Bool.cond_eq_ite, Bool.and_eq_true, Nat.ble_eq, Nat.blt_eq, Nat.beq_eq] at hh
      split at hh
      · rename_i h1
        obtain ⟨ha, hb1, rfl⟩ := h1
        cases hh
        exact vx_catch hown [] ⟨0, 8, 11, 13⟩ _ htab (fun z hz => absurd hz List.not_mem_nil) (mj_covers ha hb1) (by decide) lk0 ca0 h9 hv hcl kk
      · split at hh
        · rename_i h1
          obtain ⟨ha, hb1, rfl⟩ := h1
          cases hh
          exact vx_catch hown [⟨0, 8, 11, 13⟩] ⟨0, 8, 14, 21⟩ _ htab (fun z hz => by cases List.mem_singleton.mp hz; exact Or.inr ⟨by decide, _, lk0, n2⟩) (mj_covers ha hb1) (by decide) lk2 ca2 h9 hv hcl kk
        · cases hh
    · split at hh
      · subst k
        cases (show mj_mt 201 = some _ from rfl).symm.trans hX
        simp only [mj_hdl, Bool.cond_eq_ite, Bool.and_eq_true, Nat.ble_eq, Nat.blt_eq, Nat.beq_eq] at hh
        split at hh
        · rename_i h1
          obtain ⟨ha, hb1, rfl⟩ := h1
          cases hh
          exact vx_catch hown [] ⟨0, 8, 11, 15⟩ _ htab (fun z hz => absurd hz List.not_mem_nil) (mj_covers ha hb1) (by decide) lk1 ca1 h9 hv hcl kk
        · cases hh
      · split at hh
        · subst k
          cases (show mj_mt 202 = some _ from rfl).symm.trans hX
          simp only [mj_hdl, Bool.cond_eq_ite, Bool.and_eq_true, Nat.ble_eq, Nat.blt_eq, Nat.beq_eq] at hh
          split at hh
          · rename_i h1
            obtain ⟨ha, hb1, rfl⟩ := h1
            cases hh
            exact vx_catch hown [] ⟨0, 8, 11, 15⟩ _ htab (fun z hz => absurd hz List.not_mem_nil) (mj_covers ha hb1) (by decide) lk1 ca1 h9 hv hcl kk
          · cases hh
        · cases hh
