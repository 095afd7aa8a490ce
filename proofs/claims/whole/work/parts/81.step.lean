/-! THE MINI MACHINE IS SOUND: an instruction -/
abbrev mj_G : Type := Nat × (Nat → ClassId) × va_G × Nat × Nat × (Nat → Int32)
abbrev mj_G.b0 (G : mj_G) : Nat := G.1
abbrev mj_G.cA (G : mj_G) : Nat → ClassId := G.2.1
abbrev mj_G.D (G : mj_G) : va_G := G.2.2.1
abbrev mj_G.sb (G : mj_G) : Nat := G.2.2.2.1
abbrev mj_G.sl (G : mj_G) : Nat := G.2.2.2.2.1
abbrev mj_G.sx (G : mj_G) : Nat → Int32 := G.2.2.2.2.2
/-- what may be written: all that the law has made -/
def mj_A (G : mj_G) : Nat → Prop := fun q => G.b0 ≤ q
def mj_tys (cA : Nat → ClassId) : List (ClassId × FieldType) := [(cA 0, .int), (cA 1, .long), (cA 2, .byte), (cA 3, .char)]
/-- at a method's entry: the classes, the script, what else is fixed (Z) -/
def mj_En (Z : State → Heap → Prop) (G : mj_G) (U : State) (H : Heap) : Prop := va_K G.D mj_cls (mj_tys G.cA) U ∧ G.b0 ≤ H.size ∧ va_X G.sb G.sl G.sx U H ∧ G.sb < G.b0 ∧ G.sl < 2 ^ 31 ∧ Z U H
/-- the memory lies in the heap -/
def mj_In (G : mj_G) (rho : Nat → Nat) (M : mj_M) (H : Heap) : Prop := va_P G.D mj_cls (mj_ws G.cA rho M) H ∧ va_D (mj_A G) (mj_ws G.cA rho M) ∧ M.nr ≤ 1000 ∧ (∀ r k q, M.F r k = some q → q < M.nr) ∧ rho 3000 = G.sb ∧ M.I 3000 = G.sx ∧ M.I 3001 0 = nI G.sl
/-- a method's frame: the machine, its code, its words -/
def mj_Cx (X : mj_X) (p : Program) (s : State) (m : MethodId) (args : Array Value) (meth : Method) (c : Code) : Prop := p.tables.exec = Jvm.exec ∧ c.code = X.2.1 ∧ meth.sig.returnType = X.2.2.2.1 ∧ c.maxLocals = X.2.2.1 ∧ s.vm.findClass (mj_cn X.2.2.2.2.1) = some m.cls ∧ (∀ w ∈ mj_GT, w.before args s = true) ∧ meth.locks = false ∧ meth.name = X.1.name ∧ c.exceptionTable.toList = tableOf X.2.2.2.2.2
def mj_ag (n : Nat) (rho rho' : Nat → Nat) : Prop := ∀ r, r < n ∨ 2000 ≤ r → rho' r = rho r
theorem mj_ag.refl (n : Nat) (rho : Nat → Nat) : mj_ag n rho rho := fun _ _ => rfl
def mj_lm (rho : Nat → Nat) (lv : mj_L) : mj_L := lv.map (fun q => (q.1, mj_vm rho q.2))
def mj_sm (rho : Nat → Nat) (st : List Value) : List Value := st.map (mj_vm rho)
theorem mj_vm_cat (rho : Nat → Nat) (v : Value) : (mj_vm rho v).category = v.category := by cases v <;> rfl
theorem mj_get_at {ls : Array Slot} {nL : Nat} {rho : Nat → Nat} {lv : mj_L} (hl : lv_has ls nL (mj_lm rho lv)) {i : Nat} {v : Value} (h : mj_get lv i = some v) : ls[i]? = some (.val (mj_vm rho v)) := by
  unfold mj_get at h
  cases hf : lv.find? (fun q => Nat.beq q.1 i) with
  | none => rw [hf] at h; cases h
  | some q =>
    rw [hf] at h
    cases h
    have h1 : Nat.beq q.1 i = true := List.find?_some (p := fun q : Nat × Value => Nat.beq q.1 i) hf
    have h2 := List.mem_of_find?_eq_some hf
    have h3 : q.1 = i := Nat.eq_of_beq_eq_true h1
    have h4 := hl.2.2 (q.1, mj_vm rho q.2) (List.mem_map.mpr ⟨q, h2, rfl⟩)
    rw [h3] at h4
    exact h4
theorem mj_get_ix {rho : Nat → Nat} {lv : mj_L} {i : Nat} {v : Value} (h : mj_get lv i = some v) : ∃ j : Nat, (mj_lm rho lv)[j]? = some (i, mj_vm rho v) := by
  unfold mj_get at h
  cases hf : lv.find? (fun q => Nat.beq q.1 i) with
  | none => rw [hf] at h; cases h
  | some q =>
    rw [hf] at h
    cases h
    have h1 : Nat.beq q.1 i = true := List.find?_some (p := fun q : Nat × Value => Nat.beq q.1 i) hf
    have h2 := List.mem_of_find?_eq_some hf
    have h3 : q.1 = i := Nat.eq_of_beq_eq_true h1
    obtain ⟨j, hj⟩ := List.mem_iff_getElem?.mp (List.mem_map.mpr ⟨q, h2, rfl⟩ : (q.1, mj_vm rho q.2) ∈ mj_lm rho lv)
    rw [h3] at hj
    exact ⟨j, hj⟩
theorem mj_s1_lm (rho : Nat → Nat) (lv : mj_L) (i : Nat) (v : Value) : (i, mj_vm rho v) :: (mj_lm rho lv).filter (fun q => !(q.1 == i) && !(q.1 + 1 == i && q.2.category == 2)) = mj_lm rho (mj_s1 lv i v) := by
  unfold mj_s1 mj_lm
  rw [List.map_cons, List.filter_map]
  congr 2
  refine List.filter_congr fun q _ => ?_
  simp [Function.comp, mj_vm_cat]
theorem mj_s2_lm (rho : Nat → Nat) (lv : mj_L) (i : Nat) (v : Value) : (i, mj_vm rho v) :: (mj_lm rho lv).filter (fun q => !(q.1 == i) && (!(q.1 == i + 1) && !(q.1 + 1 == i && q.2.category == 2))) = mj_lm rho (mj_s2 lv i v) := by
  unfold mj_s2 mj_lm
  rw [List.map_cons, List.filter_map]
  congr 2
  refine List.filter_congr fun q _ => ?_
  simp [Function.comp, mj_vm_cat]
section MJS
variable {p : Program} {l : Launch} {e : Env} {R : Room} {s : State} {m : MethodId} {args : Array Value} {below : List Frame} {meth : Method} {c : Code} {H : Heap} {locs : List Loc} {cells slots : Nat} {Q : State → Prop}
variable {Z : State → Heap → Prop} {G : mj_G} {rho : Nat → Nat} {ls : Array Slot}
/-- what is owed behind an instruction -/
def mj_Nx (p : Program) (l : Launch) (e : Env) (R : Room) (s : State) (m : MethodId) (args : Array Value) (below : List Frame) (meth : Method) (c : Code) (cells slots : Nat) (Q : State → Prop) (G : mj_G) (rho : Nat → Nat) (nL : Nat) (M : mj_M) (y : mj_C) : Prop :=
  ∀ (rho' : Nat → Nat) (H' : Heap) (locs' : List Loc) (ls' : Array Slot), mj_ag M.nr rho rho' → mj_In G rho' y.2.2.2 H' → va_S (mj_A G) s.heap H' locs' → lv_has ls' nL (mj_lm rho' y.2.1) → W p l e R s m args below meth c H' locs' (cells + (y.2.2.2.nc - M.nc)) (slots + (y.2.2.2.ns - M.ns)) Q (F0 m y.1 ls' (mj_sm rho' y.2.2.1))
theorem mj_Nx.use {nL pc' : Nat} {M : mj_M} {lv' : mj_L} {st' : List Value} {H' : Heap} {locs' : List Loc} {ls' : Array Slot} {M' : mj_M} (kk : mj_Nx p l e R s m args below meth c cells slots Q G rho nL M (pc', lv', st', M')) (h1 : M'.nc = M.nc) (h2 : M'.ns = M.ns) (hI : mj_In G rho M' H') (hS : va_S (mj_A G) s.heap H' locs') (hl : lv_has ls' nL (mj_lm rho lv')) : W p l e R s m args below meth c H' locs' cells slots Q (F0 m pc' ls' (mj_sm rho st')) := by
  have h := kk rho H' locs' ls' (mj_ag.refl _ _) hI hS hl
  simp only [h1, h2, Nat.sub_self, Nat.add_zero] at h
  exact h
theorem mj_step_ok {k pc : Nat} {X : mj_X} {E : mj_E} {lv : mj_L} {st : List Value} {M : mj_M} {y : mj_C} (hX : mj_mt k = some X) (hat : mj_at k pc = some E) (h : mj_step E (pc, lv, st, M) = some y) (hC : mj_Cx X p s m args meth c) (hE : mj_En Z G s s.heap) (hI : mj_In G rho M H) (hS : va_S (mj_A G) s.heap H locs) (hl : lv_has ls X.2.2.1 (mj_lm rho lv))
    (hR : cells + (y.2.2.2.nc - M.nc) ≤ R.cells ∧ slots + (y.2.2.2.ns - M.ns) ≤ R.slots) (kk : mj_Nx p l e R s m args below meth c cells slots Q G rho X.2.2.1 M y) : W p l e R s m args below meth c H locs cells slots Q (F0 m pc ls (mj_sm rho st)) := by
  obtain ⟨hx, hb, hr, hml, hown, hts, hlk, hnm, hxt⟩ := hC
  have hok := mj_ok_at hX hat
  obtain ⟨i, len, a, b, v, tl⟩ := E
  rw [mj_ok, Bool.and_eq_true] at hok
  obtain ⟨hdc, hok⟩ := hok
  have hd : decode X.2.1 pc = .ok (i, len) := of_decide_eq_true hdc
  cases i
  case iconst n =>
    simp only [mj_ok2, Bool.and_eq_true, decide_eq_true_eq] at hok
    obtain ⟨h1, h2⟩ := hok
    have h3 := Nat.eq_of_beq_eq_true h2
    subst h3 h1
    cases h
    exact lv_iconst hx hb hd rfl (kk.use rfl rfl hI hS hl)
  case bipush n =>
    simp only [mj_ok2, Bool.and_eq_true, decide_eq_true_eq] at hok
    obtain ⟨h1, h2⟩ := hok
    have h3 := Nat.eq_of_beq_eq_true h2
    subst h3 h1
    cases h
    exact lv_bipush hx hb hd rfl (kk.use rfl rfl hI hS hl)
  case sipush n =>
    simp only [mj_ok2, Bool.and_eq_true, decide_eq_true_eq] at hok
    obtain ⟨h1, h2⟩ := hok
    have h3 := Nat.eq_of_beq_eq_true h2
    subst h3 h1
    cases h
    exact lv_sipush hx hb hd rfl (kk.use rfl rfl hI hS hl)
  case lconst n =>
    simp only [mj_ok2, Bool.and_eq_true, decide_eq_true_eq] at hok
    obtain ⟨h1, h2⟩ := hok
    have h3 := Nat.eq_of_beq_eq_true h2
    subst h3 h1
    cases h
    exact lv_lconst hx hb hd rfl (kk.use rfl rfl hI hS hl)
  case ldc2_w n =>
    simp only [mj_ok2, Bool.and_eq_true] at hok
    obtain ⟨h1, h2⟩ := hok
    have h3 := Nat.eq_of_beq_eq_true h2
    subst h3
    cases v <;> (try (cases h1; done))
    rename_i x
    cases h
    exact lv_ldc2 hx hb hown (hts _ (mj_gt (of_decide_eq_true h1) rfl)) hd (kk.use rfl rfl hI hS hl)
  case iadd =>
    simp only [mj_ok2] at hok
    have h3 := Nat.eq_of_beq_eq_true hok
    subst h3
    rcases st with _ | ⟨x1, _ | ⟨x2, st⟩⟩
    · cases h
    · cases x1 <;> cases h
    · cases x1 <;> (try (cases h; done)) <;> cases x2 <;> (try (cases h; done))
      cases h
      exact lv_iadd hx hb hd (kk.use rfl rfl hI hS hl)
  case isub =>
    simp only [mj_ok2] at hok
    have h3 := Nat.eq_of_beq_eq_true hok
    subst h3
    rcases st with _ | ⟨x1, _ | ⟨x2, st⟩⟩
    · cases h
    · cases x1 <;> cases h
    · cases x1 <;> (try (cases h; done)) <;> cases x2 <;> (try (cases h; done))
      cases h
      exact lv_isub hx hb hd (kk.use rfl rfl hI hS hl)
  case imul =>
    simp only [mj_ok2] at hok
    have h3 := Nat.eq_of_beq_eq_true hok
    subst h3
    rcases st with _ | ⟨x1, _ | ⟨x2, st⟩⟩
    · cases h
    · cases x1 <;> cases h
    · cases x1 <;> (try (cases h; done)) <;> cases x2 <;> (try (cases h; done))
      cases h
      exact lv_imul hx hb hd (kk.use rfl rfl hI hS hl)
  case iand =>
    simp only [mj_ok2] at hok
    have h3 := Nat.eq_of_beq_eq_true hok
    subst h3
    rcases st with _ | ⟨x1, _ | ⟨x2, st⟩⟩
    · cases h
    · cases x1 <;> cases h
    · cases x1 <;> (try (cases h; done)) <;> cases x2 <;> (try (cases h; done))
      cases h
      exact lv_iand hx hb hd (kk.use rfl rfl hI hS hl)
  case ior =>
    simp only [mj_ok2] at hok
    have h3 := Nat.eq_of_beq_eq_true hok
    subst h3
    rcases st with _ | ⟨x1, _ | ⟨x2, st⟩⟩
    · cases h
    · cases x1 <;> cases h
    · cases x1 <;> (try (cases h; done)) <;> cases x2 <;> (try (cases h; done))
      cases h
      exact lv_ior hx hb hd (kk.use rfl rfl hI hS hl)
  case ishl =>
    simp only [mj_ok2] at hok
    have h3 := Nat.eq_of_beq_eq_true hok
    subst h3
    rcases st with _ | ⟨x1, _ | ⟨x2, st⟩⟩
    · cases h
    · cases x1 <;> cases h
    · cases x1 <;> (try (cases h; done)) <;> cases x2 <;> (try (cases h; done))
      cases h
      exact lv_ishl hx hb hd (kk.use rfl rfl hI hS hl)
  case ishr =>
    simp only [mj_ok2] at hok
    have h3 := Nat.eq_of_beq_eq_true hok
    subst h3
    rcases st with _ | ⟨x1, _ | ⟨x2, st⟩⟩
    · cases h
    · cases x1 <;> cases h
    · cases x1 <;> (try (cases h; done)) <;> cases x2 <;> (try (cases h; done))
      cases h
      exact lv_ishr hx hb hd (kk.use rfl rfl hI hS hl)
  case ladd =>
    simp only [mj_ok2] at hok
    have h3 := Nat.eq_of_beq_eq_true hok
    subst h3
    rcases st with _ | ⟨x1, _ | ⟨x2, st⟩⟩
    · cases h
    · cases x1 <;> cases h
    · cases x1 <;> (try (cases h; done)) <;> cases x2 <;> (try (cases h; done))
      cases h
      exact lv_ladd hx hb hd (kk.use rfl rfl hI hS hl)
  case lsub =>
    simp only [mj_ok2] at hok
    have h3 := Nat.eq_of_beq_eq_true hok
    subst h3
    rcases st with _ | ⟨x1, _ | ⟨x2, st⟩⟩
    · cases h
    · cases x1 <;> cases h
    · cases x1 <;> (try (cases h; done)) <;> cases x2 <;> (try (cases h; done))
      cases h
      exact lv_lsub hx hb hd (kk.use rfl rfl hI hS hl)
  case lmul =>
    simp only [mj_ok2] at hok
    have h3 := Nat.eq_of_beq_eq_true hok
    subst h3
    rcases st with _ | ⟨x1, _ | ⟨x2, st⟩⟩
    · cases h
    · cases x1 <;> cases h
    · cases x1 <;> (try (cases h; done)) <;> cases x2 <;> (try (cases h; done))
      cases h
      exact lv_lmul hx hb hd (kk.use rfl rfl hI hS hl)
  case land =>
    simp only [mj_ok2] at hok
    have h3 := Nat.eq_of_beq_eq_true hok
    subst h3
    rcases st with _ | ⟨x1, _ | ⟨x2, st⟩⟩
    · cases h
    · cases x1 <;> cases h
    · cases x1 <;> (try (cases h; done)) <;> cases x2 <;> (try (cases h; done))
      cases h
      exact lv_land hx hb hd (kk.use rfl rfl hI hS hl)
  case lor =>
    simp only [mj_ok2] at hok
    have h3 := Nat.eq_of_beq_eq_true hok
    subst h3
    rcases st with _ | ⟨x1, _ | ⟨x2, st⟩⟩
    · cases h
    · cases x1 <;> cases h
    · cases x1 <;> (try (cases h; done)) <;> cases x2 <;> (try (cases h; done))
      cases h
      exact lv_lor hx hb hd (kk.use rfl rfl hI hS hl)
  case lshl =>
    simp only [mj_ok2] at hok
    have h3 := Nat.eq_of_beq_eq_true hok
    subst h3
    rcases st with _ | ⟨x1, _ | ⟨x2, st⟩⟩
    · cases h
    · cases x1 <;> cases h
    · cases x1 <;> (try (cases h; done)) <;> cases x2 <;> (try (cases h; done))
      cases h
      exact lv_lshl hx hb hd rfl (kk.use rfl rfl hI hS hl)
  case lshr =>
    simp only [mj_ok2] at hok
    have h3 := Nat.eq_of_beq_eq_true hok
    subst h3
    rcases st with _ | ⟨x1, _ | ⟨x2, st⟩⟩
    · cases h
    · cases x1 <;> cases h
    · cases x1 <;> (try (cases h; done)) <;> cases x2 <;> (try (cases h; done))
      cases h
      exact lv_lshr hx hb hd rfl (kk.use rfl rfl hI hS hl)
  case lushr =>
    simp only [mj_ok2] at hok
    have h3 := Nat.eq_of_beq_eq_true hok
    subst h3
    rcases st with _ | ⟨x1, _ | ⟨x2, st⟩⟩
    · cases h
    · cases x1 <;> cases h
    · cases x1 <;> (try (cases h; done)) <;> cases x2 <;> (try (cases h; done))
      cases h
      exact lv_lushr hx hb hd rfl (kk.use rfl rfl hI hS hl)
  case lcmp =>
    simp only [mj_ok2] at hok
    have h3 := Nat.eq_of_beq_eq_true hok
    subst h3
    rcases st with _ | ⟨x1, _ | ⟨x2, st⟩⟩
    · cases h
    · cases x1 <;> cases h
    · cases x1 <;> (try (cases h; done)) <;> cases x2 <;> (try (cases h; done))
      cases h
      exact W.lcmp hx hb hd (kk.use rfl rfl hI hS hl)
  case idiv =>
    simp only [mj_ok2] at hok
    have h3 := Nat.eq_of_beq_eq_true hok
    subst h3
    rcases st with _ | ⟨x1, _ | ⟨x2, st⟩⟩
    · cases h
    · cases x1 <;> cases h
    · cases x1 <;> (try (cases h; done)) <;> cases x2 <;> (try (cases h; done))
      rename_i y1 y2
      by_cases h0 : y1 = 0
      · simp only [mj_step, if_pos h0] at h
        cases h
      · simp only [mj_step, if_neg h0] at h
        cases h
        exact lv_idiv hx hb hd h0 (kk.use rfl rfl hI hS hl)
  case irem =>
    simp only [mj_ok2] at hok
    have h3 := Nat.eq_of_beq_eq_true hok
    subst h3
    rcases st with _ | ⟨x1, _ | ⟨x2, st⟩⟩
    · cases h
    · cases x1 <;> cases h
    · cases x1 <;> (try (cases h; done)) <;> cases x2 <;> (try (cases h; done))
      rename_i y1 y2
      by_cases h0 : y1 = 0
      · simp only [mj_step, if_pos h0] at h
        cases h
      · simp only [mj_step, if_neg h0] at h
        cases h
        exact lv_irem hx hb hd h0 (kk.use rfl rfl hI hS hl)
  case ldiv =>
    simp only [mj_ok2] at hok
    have h3 := Nat.eq_of_beq_eq_true hok
    subst h3
    rcases st with _ | ⟨x1, _ | ⟨x2, st⟩⟩
    · cases h
    · cases x1 <;> cases h
    · cases x1 <;> (try (cases h; done)) <;> cases x2 <;> (try (cases h; done))
      rename_i y1 y2
      by_cases h0 : y1 = 0
      · simp only [mj_step, if_pos h0] at h
        cases h
      · simp only [mj_step, if_neg h0] at h
        cases h
        exact lv_ldiv hx hb hd h0 (kk.use rfl rfl hI hS hl)
  case i2l =>
    simp only [mj_ok2] at hok
    have h3 := Nat.eq_of_beq_eq_true hok
    subst h3
    rcases st with _ | ⟨x1, st⟩
    · cases h
    · cases x1 <;> (try (cases h; done))
      cases h
      exact lv_i2l hx hb hd rfl (kk.use rfl rfl hI hS hl)
  case l2i =>
    simp only [mj_ok2] at hok
    have h3 := Nat.eq_of_beq_eq_true hok
    subst h3
    rcases st with _ | ⟨x1, st⟩
    · cases h
    · cases x1 <;> (try (cases h; done))
      cases h
      exact lv_l2i hx hb hd rfl (kk.use rfl rfl hI hS hl)
  case i2b =>
    simp only [mj_ok2] at hok
    have h3 := Nat.eq_of_beq_eq_true hok
    subst h3
    rcases st with _ | ⟨x1, st⟩
    · cases h
    · cases x1 <;> (try (cases h; done))
      cases h
      exact lv_i2b hx hb hd rfl (kk.use rfl rfl hI hS hl)
  case i2c =>
    simp only [mj_ok2] at hok
    have h3 := Nat.eq_of_beq_eq_true hok
    subst h3
    rcases st with _ | ⟨x1, st⟩
    · cases h
    · cases x1 <;> (try (cases h; done))
      cases h
      exact lv_i2c hx hb hd rfl (kk.use rfl rfl hI hS hl)
  case dup =>
    simp only [mj_ok2] at hok
    have h3 := Nat.eq_of_beq_eq_true hok
    subst h3
    rcases st with _ | ⟨x1, st⟩
    · cases h
    · cases x1 <;> (try (cases h; done))
      all_goals (cases h; exact lv_dup hx hb hd rfl (kk.use rfl rfl hI hS hl))
  case pop =>
    simp only [mj_ok2] at hok
    have h3 := Nat.eq_of_beq_eq_true hok
    subst h3
    rcases st with _ | ⟨x1, st⟩
    · cases h
    · cases x1 <;> (try (cases h; done))
      cases h
      exact lv_pop hx hb hd rfl (kk.use rfl rfl hI hS hl)
  case iload_n n =>
    simp only [mj_ok2] at hok
    have h3 := Nat.eq_of_beq_eq_true hok
    subst h3
    simp only [mj_step] at h
    cases hg : mj_get lv n with
    | none => simp only [hg] at h; cases h
    | some x =>
      simp only [hg] at h
      cases x <;> (try (cases h; done))
      cases h
      exact lv_iload_n hx hb hd rfl (mj_get_at hl hg) (kk.use rfl rfl hI hS hl)
  case istore_n n =>
    simp only [mj_ok2, Bool.and_eq_true] at hok
    obtain ⟨h1, h2⟩ := hok
    have h3 := Nat.eq_of_beq_eq_true h2
    subst h3
    rcases st with _ | ⟨x1, st⟩
    · cases h
    · cases x1 <;> (try (cases h; done))
      cases h
      exact lv_istore_n hx hb hd rfl hl (by simpa [Nat.blt_eq] using h1) (mj_s1_lm rho lv n (.int _)) (fun ls' hl' => kk.use rfl rfl hI hS hl')
  case iload n =>
    simp only [mj_ok2] at hok
    have h3 := Nat.eq_of_beq_eq_true hok
    subst h3
    simp only [mj_step] at h
    cases hg : mj_get lv n with
    | none => simp only [hg] at h; cases h
    | some x =>
      simp only [hg] at h
      cases x <;> (try (cases h; done))
      cases h
      exact lv_iload hx hb hd (mj_get_at hl hg) (kk.use rfl rfl hI hS hl)
  case istore n =>
    simp only [mj_ok2, Bool.and_eq_true] at hok
    obtain ⟨h1, h2⟩ := hok
    have h3 := Nat.eq_of_beq_eq_true h2
    subst h3
    rcases st with _ | ⟨x1, st⟩
    · cases h
    · cases x1 <;> (try (cases h; done))
      cases h
      exact lv_istore hx hb hd hl (by simpa [Nat.blt_eq] using h1) (mj_s1_lm rho lv n (.int _)) (fun ls' hl' => kk.use rfl rfl hI hS hl')
  case lload_n n =>
    simp only [mj_ok2] at hok
    have h3 := Nat.eq_of_beq_eq_true hok
    subst h3
    simp only [mj_step] at h
    cases hg : mj_get lv n with
    | none => simp only [hg] at h; cases h
    | some x =>
      simp only [hg] at h
      cases x <;> (try (cases h; done))
      cases h
      exact lv_lload_n hx hb hd rfl (mj_get_at hl hg) (kk.use rfl rfl hI hS hl)
  case lstore_n n =>
    simp only [mj_ok2, Bool.and_eq_true] at hok
    obtain ⟨h1, h2⟩ := hok
    have h3 := Nat.eq_of_beq_eq_true h2
    subst h3
    rcases st with _ | ⟨x1, st⟩
    · cases h
    · cases x1 <;> (try (cases h; done))
      cases h
      exact lv_lstore_n hx hb hd rfl hl (by simpa [Nat.blt_eq] using h1) (mj_s2_lm rho lv n (.long _)) (fun ls' hl' => kk.use rfl rfl hI hS hl')
  case lload n =>
    simp only [mj_ok2] at hok
    have h3 := Nat.eq_of_beq_eq_true hok
    subst h3
    simp only [mj_step] at h
    cases hg : mj_get lv n with
    | none => simp only [hg] at h; cases h
    | some x =>
      simp only [hg] at h
      cases x <;> (try (cases h; done))
      cases h
      exact lv_lload hx hb hd (mj_get_at hl hg) (kk.use rfl rfl hI hS hl)
  case lstore n =>
    simp only [mj_ok2, Bool.and_eq_true] at hok
    obtain ⟨h1, h2⟩ := hok
    have h3 := Nat.eq_of_beq_eq_true h2
    subst h3
    rcases st with _ | ⟨x1, st⟩
    · cases h
    · cases x1 <;> (try (cases h; done))
      cases h
      exact lv_lstore hx hb hd hl (by simpa [Nat.blt_eq] using h1) (mj_s2_lm rho lv n (.long _)) (fun ls' hl' => kk.use rfl rfl hI hS hl')
  case aload_n n =>
    simp only [mj_ok2] at hok
    have h3 := Nat.eq_of_beq_eq_true hok
    subst h3
    simp only [mj_step] at h
    cases hg : mj_get lv n with
    | none => simp only [hg] at h; cases h
    | some x =>
      simp only [hg] at h
      cases x <;> (try (cases h; done))
      cases h
      exact lv_aload_n hx hb hd rfl (mj_get_at hl hg) (kk.use rfl rfl hI hS hl)
  case astore_n n =>
    simp only [mj_ok2, Bool.and_eq_true] at hok
    obtain ⟨h1, h2⟩ := hok
    have h3 := Nat.eq_of_beq_eq_true h2
    subst h3
    rcases st with _ | ⟨x1, st⟩
    · cases h
    · cases x1 <;> (try (cases h; done))
      cases h
      exact lv_astore_n hx hb hd rfl hl (by simpa [Nat.blt_eq] using h1) (mj_s1_lm rho lv n (.ref _)) (fun ls' hl' => kk.use rfl rfl hI hS hl')
  case aload n =>
    simp only [mj_ok2] at hok
    have h3 := Nat.eq_of_beq_eq_true hok
    subst h3
    simp only [mj_step] at h
    cases hg : mj_get lv n with
    | none => simp only [hg] at h; cases h
    | some x =>
      simp only [hg] at h
      cases x <;> (try (cases h; done))
      cases h
      exact lv_aload hx hb hd (mj_get_at hl hg) (kk.use rfl rfl hI hS hl)
  case astore n =>
    simp only [mj_ok2, Bool.and_eq_true] at hok
    obtain ⟨h1, h2⟩ := hok
    have h3 := Nat.eq_of_beq_eq_true h2
    subst h3
    rcases st with _ | ⟨x1, st⟩
    · cases h
    · cases x1 <;> (try (cases h; done))
      cases h
      exact lv_astore hx hb hd hl (by simpa [Nat.blt_eq] using h1) (mj_s1_lm rho lv n (.ref _)) (fun ls' hl' => kk.use rfl rfl hI hS hl')
  case iinc n f =>
    simp only [mj_ok2, Bool.and_eq_true] at hok
    obtain ⟨h1, h2⟩ := hok
    have h3 := Nat.eq_of_beq_eq_true h2
    subst h3
    simp only [mj_step] at h
    cases hg : mj_get lv n with
    | none => simp only [hg] at h; cases h
    | some x =>
      simp only [hg] at h
      cases x <;> (try (cases h; done))
      cases h
      obtain ⟨j, hj⟩ := mj_get_ix (rho := rho) hg
      exact lv_iinc hx hb hd hl hj rfl (by simpa [Nat.blt_eq] using h1) (mj_s1_lm rho lv n (.int _)) (fun ls' hl' => kk.use rfl rfl hI hS hl')
  case goto f =>
    simp only [mj_ok2, Bool.and_eq_true, decide_eq_true_eq] at hok
    obtain ⟨hok, h2⟩ := hok
    have h3 := Nat.eq_of_beq_eq_true h2
    subst h3
    cases h
    exact lv_goto hx hb hd hok (kk.use rfl rfl hI hS hl)
  case ifCond cd f =>
    simp only [mj_ok2, Bool.and_eq_true, decide_eq_true_eq] at hok
    obtain ⟨h1, h2⟩ := hok
    have h3 := Nat.eq_of_beq_eq_true h2
    subst h3
    rcases st with _ | ⟨x1, st⟩
    · cases h
    · cases x1 <;> (try (cases h; done))
      rename_i z1
      cases cd <;> simp only [mj_step, mj_if] at h
      · by_cases hc : z1 = 0
        · rw [if_pos hc] at h
          cases h
          exact lv_if_eq hx hb hd h1 (fun _ => kk.use rfl rfl hI hS hl) (fun q => absurd hc q)
        · rw [if_neg hc] at h
          cases h
          exact lv_if_eq hx hb hd h1 (fun q => absurd q hc) (fun _ => kk.use rfl rfl hI hS hl)
      · by_cases hc : z1 = 0
        · rw [if_pos hc] at h
          cases h
          exact lv_if_ne hx hb hd h1 (fun q => absurd hc q) (fun _ => kk.use rfl rfl hI hS hl)
        · rw [if_neg hc] at h
          cases h
          exact lv_if_ne hx hb hd h1 (fun _ => kk.use rfl rfl hI hS hl) (fun q => absurd q hc)
      · by_cases hc : z1 < 0
        · rw [if_pos hc] at h
          cases h
          exact lv_if_lt hx hb hd h1 (fun _ => kk.use rfl rfl hI hS hl) (fun q => absurd hc q)
        · rw [if_neg hc] at h
          cases h
          exact lv_if_lt hx hb hd h1 (fun q => absurd q hc) (fun _ => kk.use rfl rfl hI hS hl)
      · by_cases hc : z1 < 0
        · rw [if_pos hc] at h
          cases h
          exact lv_if_ge hx hb hd h1 (fun q => absurd hc (Int32.not_lt.mpr q)) (fun _ => kk.use rfl rfl hI hS hl)
        · rw [if_neg hc] at h
          cases h
          exact lv_if_ge hx hb hd h1 (fun _ => kk.use rfl rfl hI hS hl) (fun q => absurd (Int32.not_lt.mp hc) q)
      · by_cases hc : 0 < z1
        · rw [if_pos hc] at h
          cases h
          exact lv_if_gt hx hb hd h1 (fun _ => kk.use rfl rfl hI hS hl) (fun q => absurd hc q)
        · rw [if_neg hc] at h
          cases h
          exact lv_if_gt hx hb hd h1 (fun q => absurd q hc) (fun _ => kk.use rfl rfl hI hS hl)
      · by_cases hc : 0 < z1
        · rw [if_pos hc] at h
          cases h
          exact lv_if_le hx hb hd h1 (fun q => absurd hc (Int32.not_lt.mpr q)) (fun _ => kk.use rfl rfl hI hS hl)
        · rw [if_neg hc] at h
          cases h
          exact lv_if_le hx hb hd h1 (fun _ => kk.use rfl rfl hI hS hl) (fun q => absurd (Int32.not_lt.mp hc) q)
  case if_icmp cd f =>
    simp only [mj_ok2, Bool.and_eq_true, decide_eq_true_eq] at hok
    obtain ⟨h1, h2⟩ := hok
    have h3 := Nat.eq_of_beq_eq_true h2
    subst h3
    rcases st with _ | ⟨x1, _ | ⟨x2, st⟩⟩
    · cases h
    · cases x1 <;> cases h
    · cases x1 <;> (try (cases h; done)) <;> cases x2 <;> (try (cases h; done))
      rename_i z1 z2
      cases cd <;> simp only [mj_step, mj_if] at h
      · by_cases hc : z2 = z1
        · rw [if_pos hc] at h
          cases h
          exact lv_icmp_eq hx hb hd h1 (fun _ => kk.use rfl rfl hI hS hl) (fun q => absurd hc q)
        · rw [if_neg hc] at h
          cases h
          exact lv_icmp_eq hx hb hd h1 (fun q => absurd q hc) (fun _ => kk.use rfl rfl hI hS hl)
      · by_cases hc : z2 = z1
        · rw [if_pos hc] at h
          cases h
          exact lv_icmp_ne hx hb hd h1 (fun q => absurd hc q) (fun _ => kk.use rfl rfl hI hS hl)
        · rw [if_neg hc] at h
          cases h
          exact lv_icmp_ne hx hb hd h1 (fun _ => kk.use rfl rfl hI hS hl) (fun q => absurd q hc)
      · by_cases hc : z2 < z1
        · rw [if_pos hc] at h
          cases h
          exact lv_icmp_lt hx hb hd h1 (fun _ => kk.use rfl rfl hI hS hl) (fun q => absurd hc q)
        · rw [if_neg hc] at h
          cases h
          exact lv_icmp_lt hx hb hd h1 (fun q => absurd q hc) (fun _ => kk.use rfl rfl hI hS hl)
      · by_cases hc : z2 < z1
        · rw [if_pos hc] at h
          cases h
          exact lv_icmp_ge hx hb hd h1 (fun q => absurd hc (Int32.not_lt.mpr q)) (fun _ => kk.use rfl rfl hI hS hl)
        · rw [if_neg hc] at h
          cases h
          exact lv_icmp_ge hx hb hd h1 (fun _ => kk.use rfl rfl hI hS hl) (fun q => absurd (Int32.not_lt.mp hc) q)
      · by_cases hc : z1 < z2
        · rw [if_pos hc] at h
          cases h
          exact lv_icmp_gt hx hb hd h1 (fun _ => kk.use rfl rfl hI hS hl) (fun q => absurd hc q)
        · rw [if_neg hc] at h
          cases h
          exact lv_icmp_gt hx hb hd h1 (fun q => absurd q hc) (fun _ => kk.use rfl rfl hI hS hl)
      · by_cases hc : z1 < z2
        · rw [if_pos hc] at h
          cases h
          exact lv_icmp_le hx hb hd h1 (fun q => absurd hc (Int32.not_lt.mpr q)) (fun _ => kk.use rfl rfl hI hS hl)
        · rw [if_neg hc] at h
          cases h
          exact lv_icmp_le hx hb hd h1 (fun _ => kk.use rfl rfl hI hS hl) (fun q => absurd (Int32.not_lt.mp hc) q)
  all_goals sorry
end MJS
