/-! THE MINI MACHINE IS SOUND: an instruction -/
abbrev mj_G : Type := Nat × (Nat → ClassId) × va_G × Nat × Nat × (Nat → Int32)
abbrev mj_G.b0 (G : mj_G) : Nat := G.1
abbrev mj_G.cA (G : mj_G) : Nat → ClassId := G.2.1
abbrev mj_G.D (G : mj_G) : va_G := G.2.2.1
abbrev mj_G.sb (G : mj_G) : Nat := G.2.2.2.1
abbrev mj_G.sl (G : mj_G) : Nat := G.2.2.2.2.1
abbrev mj_G.sx (G : mj_G) : Nat → Int32 := G.2.2.2.2.2
/-- what may be written: all that the law has made -/
def mj_A (G : mj_G) : Nat → Prop := fun q => G.b0 ≤ q
def mj_tys (cA : Nat → ClassId) : List (ClassId × FieldType) := [(cA 0, .int), (cA 1, .long), (cA 2, .byte), (cA 3, .char)]
/-- at a method's entry: the classes, the script, what else is fixed (Z) -/
def mj_En (Z : State → Heap → Prop) (G : mj_G) (U : State) (H : Heap) : Prop := va_K G.D mj_cls (mj_tys G.cA) U ∧ G.b0 ≤ H.size ∧ va_X G.sb G.sl G.sx U H ∧ G.sb < G.b0 ∧ G.sl < 2 ^ 31 ∧ Z U H
/-- the memory lies in the heap -/
def mj_In (G : mj_G) (rho : Nat → Nat) (M : mj_M) (H : Heap) : Prop := va_P G.D mj_cls (mj_ws G.cA rho M) H ∧ va_D (mj_A G) (mj_ws G.cA rho M) ∧ M.nr ≤ 1000 ∧ (∀ r k q, M.F r k = some q → q < M.nr) ∧ rho 3000 = G.sb ∧ M.I 3000 = G.sx ∧ M.I 3001 0 = nI G.sl
/-- a method's frame: the machine, its code, its words -/
def mj_Cx (X : mj_X) (p : Program) (s : State) (m : MethodId) (args : Array Value) (meth : Method) (c : Code) : Prop := p.tables.exec = Jvm.exec ∧ c.code = X.2.1 ∧ meth.sig.returnType = X.2.2.2.1 ∧ c.maxLocals = X.2.2.1 ∧ s.vm.findClass (mj_cn X.2.2.2.2.1) = some m.cls ∧ (∀ w ∈ mj_GT, w.before args s = true) ∧ meth.locks = false ∧ meth.name = X.1.name ∧ c.exceptionTable.toList = tableOf X.2.2.2.2.2
def mj_ag (n : Nat) (rho rho' : Nat → Nat) : Prop := ∀ r, r ≠ 1000000 → r < n ∨ 2000 ≤ r → rho' r = rho r
theorem mj_ag.refl (n : Nat) (rho : Nat → Nat) : mj_ag n rho rho := fun _ _ _ => rfl
def mj_lm (rho : Nat → Nat) (lv : mj_L) : mj_L := lv.map (fun q => (q.1, mj_vm rho q.2))
def mj_sm (rho : Nat → Nat) (st : List Value) : List Value := st.map (mj_vm rho)
theorem mj_vm_cat (rho : Nat → Nat) (v : Value) : (mj_vm rho v).category = v.category := by cases v <;> rfl
theorem mj_get_at {ls : Array Slot} {nL : Nat} {rho : Nat → Nat} {lv : mj_L} (hl : lv_has ls nL (mj_lm rho lv)) {i : Nat} {v : Value} (h : mj_get lv i = some v) : ls[i]? = some (.val (mj_vm rho v)) := by
  unfold mj_get at h
  cases hf : lv.find? (fun q => Nat.beq q.1 i) with
  | none => rw [hf] at h; cases h
  | some q =>
    rw [hf] at h
    cases h
    have h1 : Nat.beq q.1 i = true := List.find?_some (p := fun q : Nat × Value => Nat.beq q.1 i) hf
    have h2 := List.mem_of_find?_eq_some hf
    have h3 : q.1 = i := Nat.eq_of_beq_eq_true h1
    have h4 := hl.2.2 (q.1, mj_vm rho q.2) (List.mem_map.mpr ⟨q, h2, rfl⟩)
    rw [h3] at h4
    exact h4
theorem mj_get_ix {rho : Nat → Nat} {lv : mj_L} {i : Nat} {v : Value} (h : mj_get lv i = some v) : ∃ j : Nat, (mj_lm rho lv)[j]? = some (i, mj_vm rho v) := by
  unfold mj_get at h
  cases hf : lv.find? (fun q => Nat.beq q.1 i) with
  | none => rw [hf] at h; cases h
  | some q =>
    rw [hf] at h
    cases h
    have h1 : Nat.beq q.1 i = true := List.find?_some (p := fun q : Nat × Value => Nat.beq q.1 i) hf
    have h2 := List.mem_of_find?_eq_some hf
    have h3 : q.1 = i := Nat.eq_of_beq_eq_true h1
    obtain ⟨j, hj⟩ := List.mem_iff_getElem?.mp (List.mem_map.mpr ⟨q, h2, rfl⟩ : (q.1, mj_vm rho q.2) ∈ mj_lm rho lv)
    rw [h3] at hj
    exact ⟨j, hj⟩
theorem mj_s1_lm (rho : Nat → Nat) (lv : mj_L) (i : Nat) (v : Value) : (i, mj_vm rho v) :: (mj_lm rho lv).filter (fun q => !(q.1 == i) && !(q.1 + 1 == i && q.2.category == 2)) = mj_lm rho (mj_s1 lv i v) := by
  unfold mj_s1 mj_lm
  rw [List.map_cons, List.filter_map]
  congr 2
  refine List.filter_congr fun q _ => ?_
  simp [Function.comp, mj_vm_cat]
theorem mj_s2_lm (rho : Nat → Nat) (lv : mj_L) (i : Nat) (v : Value) : (i, mj_vm rho v) :: (mj_lm rho lv).filter (fun q => !(q.1 == i) && (!(q.1 == i + 1) && !(q.1 + 1 == i && q.2.category == 2))) = mj_lm rho (mj_s2 lv i v) := by
  unfold mj_s2 mj_lm
  rw [List.map_cons, List.filter_map]
  congr 2
  refine List.filter_congr fun q _ => ?_
  simp [Function.comp, mj_vm_cat]
theorem mj_sh_a : ∀ r, r < 86 → (mj_sh r).1 = 0 → (mj_sh r).2.1 < 12 := by decide +kernel
theorem mj_in_vp {i : Int32} {n : Nat} (h : mj_in i n = true) : vp_in i n := by
  simp only [mj_in, Bool.and_eq_true, Bool.not_eq_true', decide_eq_false_iff_not, Nat.blt_eq] at h
  intro hh
  rcases hh with h1 | h1
  · exact h.1 h1
  · exact absurd h.2 (Nat.not_lt.mpr h1)
theorem mj_sw_none {x : Int32} {d : Nat} : ∀ (tl : List (Int32 × Nat)), (∀ q ∈ tl, x ≠ q.1) → mj_sw x d tl = d := by
  intro tl
  induction tl with
  | nil => intro _; rfl
  | cons q t ih =>
    intro h
    unfold mj_sw
    rw [if_neg (h q List.mem_cons_self)]
    exact ih fun z hz => h z (List.mem_cons_of_mem _ hz)
theorem mj_sw_some {x : Int32} {d : Nat} {q : Int32 × Nat} : ∀ (tl : List (Int32 × Nat)) (i : Nat), tl[i]? = some q → x = q.1 → (∀ (j : Nat) (z : Int32 × Nat), j < i → tl[j]? = some z → x ≠ z.1) → mj_sw x d tl = q.2 := by
  intro tl
  induction tl with
  | nil => intro i h; simp at h
  | cons z t ih =>
    intro i h hx hn
    unfold mj_sw
    match i, h with
    | 0, h => cases h; rw [if_pos hx]
    | i + 1, h =>
      rw [if_neg (hn 0 z (Nat.succ_pos i) rfl)]
      exact ih i h hx fun j y hj hy => hn (j + 1) y (by omega) hy
theorem mj_sw_look {x : Int32} {d pc : Nat} {f : Int} (hd : (pc : Int) + f = (d : Int)) : ∀ (tl : List (Int32 × Nat)) (ps : List (Int × Int)), tl.map (fun q => (q.1.toInt, ((q.2 : Nat) : Int))) = ps.map (fun q => (q.1, (pc : Int) + q.2)) → (pc : Int) + Op.lookupswitch.offset ps f x.toInt = (mj_sw x d tl : Int) := by
  intro tl
  induction tl with
  | nil =>
    intro ps h
    cases ps with
    | nil => exact hd
    | cons _ _ => simp at h
  | cons q t ih =>
    intro ps h
    cases ps with
    | nil => simp at h
    | cons z ps =>
      obtain ⟨za, zb⟩ := z
      simp only [List.map_cons, List.cons.injEq, Prod.mk.injEq] at h
      rw [Op.lookupswitch.offset_cons]
      unfold mj_sw
      by_cases hq : x = q.1
      · rw [if_pos hq, if_pos (by rw [← h.1.1, hq]), h.1.2]
      · rw [if_neg hq, if_neg (fun hz => hq (Int32.toInt_inj.mp (by rw [← hz, h.1.1])))]
        exact ih ps h.2
theorem mj_rd0 (M : mj_M) (n k : Nat) (ty : FieldType) (rho : Nat → Nat) (h : ty = .int ∨ ty = .long ∨ ty = .boolean ∨ (∃ c, ty = .object c) ∨ ∃ t, ty = .array t) : mj_vm rho (mj_rd (mj_new M n) M.nr k ty) = defaultValue ty := by
  rcases h with rfl | rfl | rfl | ⟨c, rfl⟩ | ⟨t, rfl⟩ <;> simp [mj_rd, mj_new, mj_vm, mj_M.I, mj_M.L, mj_M.F, defaultValue]
theorem mj_ft_ok : ∀ ci, ci < 12 → ∀ k, k < (mj_fl ci).length → (match mj_ft ci k with | .int => true | .long => true | .boolean => true | .object _ => true | .array _ => true | _ => false) = true := by decide +kernel
theorem mj_ft_or {ci k : Nat} (h : ci < 12) (hk : k < (mj_fl ci).length) : mj_ft ci k = .int ∨ mj_ft ci k = .long ∨ mj_ft ci k = .boolean ∨ (∃ c, mj_ft ci k = .object c) ∨ ∃ t, mj_ft ci k = .array t := by
  have h1 := mj_ft_ok ci h k hk
  cases h2 : mj_ft ci k <;> simp [h2] at h1 ⊢
theorem mj_fv0 {M : mj_M} {n ci : Nat} {rho : Nat → Nat} (h : ci < 12) : ∀ j, j < (mj_fl ci).length → defaultValue (mj_ft ci j) = vp_V (mj_fv rho (mj_new M n) M.nr ci) j := by
  intro j hj
  unfold vp_V
  rw [List.getD_eq_getElem?_getD, mj_fv_at hj, Option.getD_some, mj_rd0 M n j _ rho (mj_ft_or h hj)]
/-- the role that is made, at q -/
def mj_ex (rho : Nat → Nat) (n q : Nat) : Nat → Nat := fun r => if r = n then q else rho r
theorem mj_ex_ag {rho : Nat → Nat} {n q : Nat} (h : n ≤ 1000) : mj_ag n rho (mj_ex rho n q) := fun r _ hr => by
  unfold mj_ex
  rw [if_neg (by omega)]
theorem mj_ws_new {cA : Nat → ClassId} {rho : Nat → Nat} {M : mj_M} {n q : Nat} (hn : M.nr ≤ 1000) (hF : ∀ r k z, M.F r k = some z → z < M.nr) : mj_ws cA (mj_ex rho M.nr q) (mj_new M n) = mj_ws cA rho M ++ [(q, mj_ce cA (mj_ex rho M.nr q) (mj_new M n) M.nr)] := by
  have h1 : (mj_new M n).nr = M.nr + 1 := rfl
  unfold mj_ws
  rw [h1, List.range_succ, List.map_append]
  congr 1
  · refine List.map_congr_left fun r hr => ?_
    have hr := List.mem_range.mp hr
    have hne : r ≠ M.nr := by omega
    have h2 : mj_ex rho M.nr q r = rho r := by unfold mj_ex; rw [if_neg hne]
    rw [h2]
    congr 1
    refine (mj_ce_congr ?_ ?_ ?_ fun k z hz => ?_).symm
    · funext i; show M.I r i = if r = M.nr then 0 else M.I r i; rw [if_neg hne]
    · funext i; show M.L r i = if r = M.nr then 0 else M.L r i; rw [if_neg hne]
    · funext i; show M.F r i = if r = M.nr then none else M.F r i; rw [if_neg hne]
    · have := hF r k z hz
      unfold mj_ex
      rw [if_neg (by omega)]
  · simp [mj_ex]
theorem mj_fr_vm {n q : Nat} {rho : Nat → Nat} (hn : n ≤ 1000) {v : Value} (h : mj_fr n v = true) : mj_vm (mj_ex rho n q) v = mj_vm rho v := by
  cases v <;> try rfl
  rename_i r
  simp only [mj_fr, Bool.or_eq_true, Bool.and_eq_true, Nat.blt_eq, Nat.ble_eq] at h
  simp only [mj_vm, mj_ex]
  rw [if_neg (by omega)]
theorem mj_fresh_lm {n q : Nat} {rho : Nat → Nat} (hn : n ≤ 1000) {lv : mj_L} {st : List Value} (h : mj_fresh n lv st = true) : mj_lm (mj_ex rho n q) lv = mj_lm rho lv ∧ mj_sm (mj_ex rho n q) st = mj_sm rho st := by
  simp only [mj_fresh, Bool.and_eq_true, List.all_eq_true] at h
  exact ⟨List.map_congr_left fun z hz => by rw [mj_fr_vm hn (h.1 z hz)], List.map_congr_left fun z hz => mj_fr_vm hn (h.2 z hz)⟩
theorem mj_wr_vm {M M' : mj_M} {r k : Nat} {ty : FieldType} {v : Value} (rho : Nat → Nat) (h : mj_wr M r k ty v = some M') : narrow ty (mj_vm rho v) = mj_vm rho v ∧ fits ty (mj_vm rho v) = true := by
  obtain ⟨-, -, -, -, -, -, h1, h2, -, -⟩ := mj_wr_spec h
  cases v <;> first | exact ⟨h1, h2⟩ | skip
  cases ty <;> first | exact ⟨rfl, rfl⟩ | (cases h; done)
/-- memory in the heap behind a write into a role -/
theorem mj_In.wr {G : mj_G} {rho : Nat → Nat} {M M' : mj_M} {H H' : Heap} {r : Nat} (hI : mj_In G rho M H) (hr : r < M.nr) (hn : M'.nr = M.nr) (ho : ∀ r', r' ≠ r → M'.I r' = M.I r') (hF : ∀ r' k' q, M'.F r' k' = some q → M.F r' k' = some q ∨ q < M.nr) (hP : va_P G.D mj_cls (mj_ws G.cA rho M') H') (hD : va_D (mj_A G) (mj_ws G.cA rho M')) : mj_In G rho M' H' := by
  obtain ⟨-, -, h3, h4, h5, h6, h7⟩ := hI
  refine ⟨hP, hD, by omega, fun r' k' q hq => ?_, h5, by rw [ho 3000 (by omega)]; exact h6, by rw [ho 3001 (by omega)]; exact h7⟩
  rw [hn]
  exact (hF r' k' q hq).elim (h4 r' k' q) id
section MJS
variable {p : Program} {l : Launch} {e : Env} {R : Room} {s : State} {m : MethodId} {args : Array Value} {below : List Frame} {meth : Method} {c : Code} {H : Heap} {locs : List Loc} {cells slots : Nat} {Q : State → Prop}
variable {Z : State → Heap → Prop} {G : mj_G} {rho : Nat → Nat} {ls : Array Slot}
/-- what is owed behind an instruction -/
def mj_Nx (p : Program) (l : Launch) (e : Env) (R : Room) (s : State) (m : MethodId) (args : Array Value) (below : List Frame) (meth : Method) (c : Code) (cells slots : Nat) (Q : State → Prop) (G : mj_G) (rho : Nat → Nat) (nL : Nat) (M : mj_M) (y : mj_C) : Prop :=
  ∀ (rho' : Nat → Nat) (H' : Heap) (locs' : List Loc) (ls' : Array Slot), mj_ag M.nr rho rho' → mj_In G rho' y.2.2.2 H' → va_S (mj_A G) s.heap H' locs' → lv_has ls' nL (mj_lm rho' y.2.1) → W p l e R s m args below meth c H' locs' (cells + (y.2.2.2.nc - M.nc)) (slots + (y.2.2.2.ns - M.ns)) Q (F0 m y.1 ls' (mj_sm rho' y.2.2.1))
theorem mj_Nx.use {nL pc' : Nat} {M : mj_M} {lv' : mj_L} {st' : List Value} {H' : Heap} {locs' : List Loc} {ls' : Array Slot} {M' : mj_M} (kk : mj_Nx p l e R s m args below meth c cells slots Q G rho nL M (pc', lv', st', M')) (h1 : M'.nc = M.nc) (h2 : M'.ns = M.ns) (hI : mj_In G rho M' H') (hS : va_S (mj_A G) s.heap H' locs') (hl : lv_has ls' nL (mj_lm rho lv')) : W p l e R s m args below meth c H' locs' cells slots Q (F0 m pc' ls' (mj_sm rho st')) := by
  have h := kk rho H' locs' ls' (mj_ag.refl _ _) hI hS hl
  simp only [h1, h2, Nat.sub_self, Nat.add_zero] at h
  exact h
theorem mj_step_ok {k pc : Nat} {X : mj_X} {E : mj_E} {lv : mj_L} {st : List Value} {M : mj_M} {y : mj_C} (hX : mj_mt k = some X) (hat : mj_at k pc = some E) (h : mj_step E (pc, lv, st, M) = some y) (hC : mj_Cx X p s m args meth c) (hE : mj_En Z G s s.heap) (hI : mj_In G rho M H) (hS : va_S (mj_A G) s.heap H locs) (hl : lv_has ls X.2.2.1 (mj_lm rho lv)) (hstr : ∀ (j : Nat) (q : Nat × Nat × String), mj_str[j]? = some q → vk_R (mj_cn q.1) q.2.1 q.2.2 (rho (2000 + j)) s)
    (hR : cells + (y.2.2.2.nc - M.nc) ≤ R.cells ∧ slots + (y.2.2.2.ns - M.ns) ≤ R.slots) (kk : mj_Nx p l e R s m args below meth c cells slots Q G rho X.2.2.1 M y) : W p l e R s m args below meth c H locs cells slots Q (F0 m pc ls (mj_sm rho st)) := by
  obtain ⟨hx, hb, hr, hml, hown, hts, hlk, hnm, hxt⟩ := hC
  have hok := mj_ok_at hX hat
  obtain ⟨i, len, a, b, v, tl⟩ := E
  rw [mj_ok, Bool.and_eq_true] at hok
  obtain ⟨hdc, hok⟩ := hok
  have hd : decode X.2.1 pc = .ok (i, len) := of_decide_eq_true hdc
  cases i
  case iconst n =>
    simp only [mj_ok2, Bool.and_eq_true, decide_eq_true_eq] at hok
    obtain ⟨h1, h2⟩ := hok
    have h3 := Nat.eq_of_beq_eq_true h2
    subst h3 h1
    cases h
    exact lv_iconst hx hb hd rfl (kk.use rfl rfl hI hS hl)
  case bipush n =>
    simp only [mj_ok2, Bool.and_eq_true, decide_eq_true_eq] at hok
    obtain ⟨h1, h2⟩ := hok
    have h3 := Nat.eq_of_beq_eq_true h2
    subst h3 h1
    cases h
    exact lv_bipush hx hb hd rfl (kk.use rfl rfl hI hS hl)
  case sipush n =>
    simp only [mj_ok2, Bool.and_eq_true, decide_eq_true_eq] at hok
    obtain ⟨h1, h2⟩ := hok
    have h3 := Nat.eq_of_beq_eq_true h2
    subst h3 h1
    cases h
    exact lv_sipush hx hb hd rfl (kk.use rfl rfl hI hS hl)
  case lconst n =>
    simp only [mj_ok2, Bool.and_eq_true, decide_eq_true_eq] at hok
    obtain ⟨h1, h2⟩ := hok
    have h3 := Nat.eq_of_beq_eq_true h2
    subst h3 h1
    cases h
    exact lv_lconst hx hb hd rfl (kk.use rfl rfl hI hS hl)
  case ldc2_w n =>
    simp only [mj_ok2, Bool.and_eq_true] at hok
    obtain ⟨h1, h2⟩ := hok
    have h3 := Nat.eq_of_beq_eq_true h2
    subst h3
    cases v <;> (try (cases h1; done))
    rename_i x
    cases h
    exact lv_ldc2 hx hb hown (hts _ (mj_gt (of_decide_eq_true h1) rfl)) hd (kk.use rfl rfl hI hS hl)
  case iadd =>
    simp only [mj_ok2] at hok
    have h3 := Nat.eq_of_beq_eq_true hok
    subst h3
    rcases st with _ | ⟨x1, _ | ⟨x2, st⟩⟩
    · cases h
    · cases x1 <;> cases h
    · cases x1 <;> (try (cases h; done)) <;> cases x2 <;> (try (cases h; done))
      cases h
      exact lv_iadd hx hb hd (kk.use rfl rfl hI hS hl)
  case isub =>
    simp only [mj_ok2] at hok
    have h3 := Nat.eq_of_beq_eq_true hok
    subst h3
    rcases st with _ | ⟨x1, _ | ⟨x2, st⟩⟩
    · cases h
    · cases x1 <;> cases h
    · cases x1 <;> (try (cases h; done)) <;> cases x2 <;> (try (cases h; done))
      cases h
      exact lv_isub hx hb hd (kk.use rfl rfl hI hS hl)
  case imul =>
    simp only [mj_ok2] at hok
    have h3 := Nat.eq_of_beq_eq_true hok
    subst h3
    rcases st with _ | ⟨x1, _ | ⟨x2, st⟩⟩
    · cases h
    · cases x1 <;> cases h
    · cases x1 <;> (try (cases h; done)) <;> cases x2 <;> (try (cases h; done))
      cases h
      exact lv_imul hx hb hd (kk.use rfl rfl hI hS hl)
  case iand =>
    simp only [mj_ok2] at hok
    have h3 := Nat.eq_of_beq_eq_true hok
    subst h3
    rcases st with _ | ⟨x1, _ | ⟨x2, st⟩⟩
    · cases h
    · cases x1 <;> cases h
    · cases x1 <;> (try (cases h; done)) <;> cases x2 <;> (try (cases h; done))
      cases h
      exact lv_iand hx hb hd (kk.use rfl rfl hI hS hl)
  case ior =>
    simp only [mj_ok2] at hok
    have h3 := Nat.eq_of_beq_eq_true hok
    subst h3
    rcases st with _ | ⟨x1, _ | ⟨x2, st⟩⟩
    · cases h
    · cases x1 <;> cases h
    · cases x1 <;> (try (cases h; done)) <;> cases x2 <;> (try (cases h; done))
      cases h
      exact lv_ior hx hb hd (kk.use rfl rfl hI hS hl)
  case ishl =>
    simp only [mj_ok2] at hok
    have h3 := Nat.eq_of_beq_eq_true hok
    subst h3
    rcases st with _ | ⟨x1, _ | ⟨x2, st⟩⟩
    · cases h
    · cases x1 <;> cases h
    · cases x1 <;> (try (cases h; done)) <;> cases x2 <;> (try (cases h; done))
      cases h
      exact lv_ishl hx hb hd (kk.use rfl rfl hI hS hl)
  case ishr =>
    simp only [mj_ok2] at hok
    have h3 := Nat.eq_of_beq_eq_true hok
    subst h3
    rcases st with _ | ⟨x1, _ | ⟨x2, st⟩⟩
    · cases h
    · cases x1 <;> cases h
    · cases x1 <;> (try (cases h; done)) <;> cases x2 <;> (try (cases h; done))
      cases h
      exact lv_ishr hx hb hd (kk.use rfl rfl hI hS hl)
  case ladd =>
    simp only [mj_ok2] at hok
    have h3 := Nat.eq_of_beq_eq_true hok
    subst h3
    rcases st with _ | ⟨x1, _ | ⟨x2, st⟩⟩
    · cases h
    · cases x1 <;> cases h
    · cases x1 <;> (try (cases h; done)) <;> cases x2 <;> (try (cases h; done))
      cases h
      exact lv_ladd hx hb hd (kk.use rfl rfl hI hS hl)
  case lsub =>
    simp only [mj_ok2] at hok
    have h3 := Nat.eq_of_beq_eq_true hok
    subst h3
    rcases st with _ | ⟨x1, _ | ⟨x2, st⟩⟩
    · cases h
    · cases x1 <;> cases h
    · cases x1 <;> (try (cases h; done)) <;> cases x2 <;> (try (cases h; done))
      cases h
      exact lv_lsub hx hb hd (kk.use rfl rfl hI hS hl)
  case lmul =>
    simp only [mj_ok2] at hok
    have h3 := Nat.eq_of_beq_eq_true hok
    subst h3
    rcases st with _ | ⟨x1, _ | ⟨x2, st⟩⟩
    · cases h
    · cases x1 <;> cases h
    · cases x1 <;> (try (cases h; done)) <;> cases x2 <;> (try (cases h; done))
      cases h
      exact lv_lmul hx hb hd (kk.use rfl rfl hI hS hl)
  case land =>
    simp only [mj_ok2] at hok
    have h3 := Nat.eq_of_beq_eq_true hok
    subst h3
    rcases st with _ | ⟨x1, _ | ⟨x2, st⟩⟩
    · cases h
    · cases x1 <;> cases h
    · cases x1 <;> (try (cases h; done)) <;> cases x2 <;> (try (cases h; done))
      cases h
      exact lv_land hx hb hd (kk.use rfl rfl hI hS hl)
  case lor =>
    simp only [mj_ok2] at hok
    have h3 := Nat.eq_of_beq_eq_true hok
    subst h3
    rcases st with _ | ⟨x1, _ | ⟨x2, st⟩⟩
    · cases h
    · cases x1 <;> cases h
    · cases x1 <;> (try (cases h; done)) <;> cases x2 <;> (try (cases h; done))
      cases h
      exact lv_lor hx hb hd (kk.use rfl rfl hI hS hl)
  case lshl =>
    simp only [mj_ok2] at hok
    have h3 := Nat.eq_of_beq_eq_true hok
    subst h3
    rcases st with _ | ⟨x1, _ | ⟨x2, st⟩⟩
    · cases h
    · cases x1 <;> cases h
    · cases x1 <;> (try (cases h; done)) <;> cases x2 <;> (try (cases h; done))
      cases h
      exact lv_lshl hx hb hd rfl (kk.use rfl rfl hI hS hl)
  case lshr =>
    simp only [mj_ok2] at hok
    have h3 := Nat.eq_of_beq_eq_true hok
    subst h3
    rcases st with _ | ⟨x1, _ | ⟨x2, st⟩⟩
    · cases h
    · cases x1 <;> cases h
    · cases x1 <;> (try (cases h; done)) <;> cases x2 <;> (try (cases h; done))
      cases h
      exact lv_lshr hx hb hd rfl (kk.use rfl rfl hI hS hl)
  case lushr =>
    simp only [mj_ok2] at hok
    have h3 := Nat.eq_of_beq_eq_true hok
    subst h3
    rcases st with _ | ⟨x1, _ | ⟨x2, st⟩⟩
    · cases h
    · cases x1 <;> cases h
    · cases x1 <;> (try (cases h; done)) <;> cases x2 <;> (try (cases h; done))
      cases h
      exact lv_lushr hx hb hd rfl (kk.use rfl rfl hI hS hl)
  case lcmp =>
    simp only [mj_ok2] at hok
    have h3 := Nat.eq_of_beq_eq_true hok
    subst h3
    rcases st with _ | ⟨x1, _ | ⟨x2, st⟩⟩
    · cases h
    · cases x1 <;> cases h
    · cases x1 <;> (try (cases h; done)) <;> cases x2 <;> (try (cases h; done))
      cases h
      exact W.lcmp hx hb hd (kk.use rfl rfl hI hS hl)
  case idiv =>
    simp only [mj_ok2] at hok
    have h3 := Nat.eq_of_beq_eq_true hok
    subst h3
    rcases st with _ | ⟨x1, _ | ⟨x2, st⟩⟩
    · cases h
    · cases x1 <;> cases h
    · cases x1 <;> (try (cases h; done)) <;> cases x2 <;> (try (cases h; done))
      rename_i y1 y2
      by_cases h0 : y1 = 0
      · simp only [mj_step, if_pos h0] at h
        cases h
      · simp only [mj_step, if_neg h0] at h
        cases h
        exact lv_idiv hx hb hd h0 (kk.use rfl rfl hI hS hl)
  case irem =>
    simp only [mj_ok2] at hok
    have h3 := Nat.eq_of_beq_eq_true hok
    subst h3
    rcases st with _ | ⟨x1, _ | ⟨x2, st⟩⟩
    · cases h
    · cases x1 <;> cases h
    · cases x1 <;> (try (cases h; done)) <;> cases x2 <;> (try (cases h; done))
      rename_i y1 y2
      by_cases h0 : y1 = 0
      · simp only [mj_step, if_pos h0] at h
        cases h
      · simp only [mj_step, if_neg h0] at h
        cases h
        exact lv_irem hx hb hd h0 (kk.use rfl rfl hI hS hl)
  case ldiv =>
    simp only [mj_ok2] at hok
    have h3 := Nat.eq_of_beq_eq_true hok
    subst h3
    rcases st with _ | ⟨x1, _ | ⟨x2, st⟩⟩
    · cases h
    · cases x1 <;> cases h
    · cases x1 <;> (try (cases h; done)) <;> cases x2 <;> (try (cases h; done))
      rename_i y1 y2
      by_cases h0 : y1 = 0
      · simp only [mj_step, if_pos h0] at h
        cases h
      · simp only [mj_step, if_neg h0] at h
        cases h
        exact lv_ldiv hx hb hd h0 (kk.use rfl rfl hI hS hl)
  case i2l =>
    simp only [mj_ok2] at hok
    have h3 := Nat.eq_of_beq_eq_true hok
    subst h3
    rcases st with _ | ⟨x1, st⟩
    · cases h
    · cases x1 <;> (try (cases h; done))
      cases h
      exact lv_i2l hx hb hd rfl (kk.use rfl rfl hI hS hl)
  case l2i =>
    simp only [mj_ok2] at hok
    have h3 := Nat.eq_of_beq_eq_true hok
    subst h3
    rcases st with _ | ⟨x1, st⟩
    · cases h
    · cases x1 <;> (try (cases h; done))
      cases h
      exact lv_l2i hx hb hd rfl (kk.use rfl rfl hI hS hl)
  case i2b =>
    simp only [mj_ok2] at hok
    have h3 := Nat.eq_of_beq_eq_true hok
    subst h3
    rcases st with _ | ⟨x1, st⟩
    · cases h
    · cases x1 <;> (try (cases h; done))
      cases h
      exact lv_i2b hx hb hd rfl (kk.use rfl rfl hI hS hl)
  case i2c =>
    simp only [mj_ok2] at hok
    have h3 := Nat.eq_of_beq_eq_true hok
    subst h3
    rcases st with _ | ⟨x1, st⟩
    · cases h
    · cases x1 <;> (try (cases h; done))
      cases h
      exact lv_i2c hx hb hd rfl (kk.use rfl rfl hI hS hl)
  case dup =>
    simp only [mj_ok2] at hok
    have h3 := Nat.eq_of_beq_eq_true hok
    subst h3
    rcases st with _ | ⟨x1, st⟩
    · cases h
    · cases x1 <;> (try (cases h; done))
      all_goals (cases h; exact lv_dup hx hb hd rfl (kk.use rfl rfl hI hS hl))
  case pop =>
    simp only [mj_ok2] at hok
    have h3 := Nat.eq_of_beq_eq_true hok
    subst h3
    rcases st with _ | ⟨x1, st⟩
    · cases h
    · cases x1 <;> (try (cases h; done))
      cases h
      exact lv_pop hx hb hd rfl (kk.use rfl rfl hI hS hl)
  case iload_n n =>
    simp only [mj_ok2] at hok
    have h3 := Nat.eq_of_beq_eq_true hok
    subst h3
    simp only [mj_step] at h
    cases hg : mj_get lv n with
    | none => simp only [hg] at h; cases h
    | some x =>
      simp only [hg] at h
      cases x <;> (try (cases h; done))
      cases h
      exact lv_iload_n hx hb hd rfl (mj_get_at hl hg) (kk.use rfl rfl hI hS hl)
  case istore_n n =>
    simp only [mj_ok2, Bool.and_eq_true] at hok
    obtain ⟨h1, h2⟩ := hok
    have h3 := Nat.eq_of_beq_eq_true h2
    subst h3
    rcases st with _ | ⟨x1, st⟩
    · cases h
    · cases x1 <;> (try (cases h; done))
      cases h
      exact lv_istore_n hx hb hd rfl hl (by simpa [Nat.blt_eq] using h1) (mj_s1_lm rho lv n (.int _)) (fun ls' hl' => kk.use rfl rfl hI hS hl')
  case iload n =>
    simp only [mj_ok2] at hok
    have h3 := Nat.eq_of_beq_eq_true hok
    subst h3
    simp only [mj_step] at h
    cases hg : mj_get lv n with
    | none => simp only [hg] at h; cases h
    | some x =>
      simp only [hg] at h
      cases x <;> (try (cases h; done))
      cases h
      exact lv_iload hx hb hd (mj_get_at hl hg) (kk.use rfl rfl hI hS hl)
  case istore n =>
    simp only [mj_ok2, Bool.and_eq_true] at hok
    obtain ⟨h1, h2⟩ := hok
    have h3 := Nat.eq_of_beq_eq_true h2
    subst h3
    rcases st with _ | ⟨x1, st⟩
    · cases h
    · cases x1 <;> (try (cases h; done))
      cases h
      exact lv_istore hx hb hd hl (by simpa [Nat.blt_eq] using h1) (mj_s1_lm rho lv n (.int _)) (fun ls' hl' => kk.use rfl rfl hI hS hl')
  case lload_n n =>
    simp only [mj_ok2] at hok
    have h3 := Nat.eq_of_beq_eq_true hok
    subst h3
    simp only [mj_step] at h
    cases hg : mj_get lv n with
    | none => simp only [hg] at h; cases h
    | some x =>
      simp only [hg] at h
      cases x <;> (try (cases h; done))
      cases h
      exact lv_lload_n hx hb hd rfl (mj_get_at hl hg) (kk.use rfl rfl hI hS hl)
  case lstore_n n =>
    simp only [mj_ok2, Bool.and_eq_true] at hok
    obtain ⟨h1, h2⟩ := hok
    have h3 := Nat.eq_of_beq_eq_true h2
    subst h3
    rcases st with _ | ⟨x1, st⟩
    · cases h
    · cases x1 <;> (try (cases h; done))
      cases h
      exact lv_lstore_n hx hb hd rfl hl (by simpa [Nat.blt_eq] using h1) (mj_s2_lm rho lv n (.long _)) (fun ls' hl' => kk.use rfl rfl hI hS hl')
  case lload n =>
    simp only [mj_ok2] at hok
    have h3 := Nat.eq_of_beq_eq_true hok
    subst h3
    simp only [mj_step] at h
    cases hg : mj_get lv n with
    | none => simp only [hg] at h; cases h
    | some x =>
      simp only [hg] at h
      cases x <;> (try (cases h; done))
      cases h
      exact lv_lload hx hb hd (mj_get_at hl hg) (kk.use rfl rfl hI hS hl)
  case lstore n =>
    simp only [mj_ok2, Bool.and_eq_true] at hok
    obtain ⟨h1, h2⟩ := hok
    have h3 := Nat.eq_of_beq_eq_true h2
    subst h3
    rcases st with _ | ⟨x1, st⟩
    · cases h
    · cases x1 <;> (try (cases h; done))
      cases h
      exact lv_lstore hx hb hd hl (by simpa [Nat.blt_eq] using h1) (mj_s2_lm rho lv n (.long _)) (fun ls' hl' => kk.use rfl rfl hI hS hl')
  case aload_n n =>
    simp only [mj_ok2] at hok
    have h3 := Nat.eq_of_beq_eq_true hok
    subst h3
    simp only [mj_step] at h
    cases hg : mj_get lv n with
    | none => simp only [hg] at h; cases h
    | some x =>
      simp only [hg] at h
      cases x <;> (try (cases h; done))
      cases h
      exact lv_aload_n hx hb hd rfl (mj_get_at hl hg) (kk.use rfl rfl hI hS hl)
  case astore_n n =>
    simp only [mj_ok2, Bool.and_eq_true] at hok
    obtain ⟨h1, h2⟩ := hok
    have h3 := Nat.eq_of_beq_eq_true h2
    subst h3
    rcases st with _ | ⟨x1, st⟩
    · cases h
    · cases x1 <;> (try (cases h; done))
      cases h
      exact lv_astore_n hx hb hd rfl hl (by simpa [Nat.blt_eq] using h1) (mj_s1_lm rho lv n (.ref _)) (fun ls' hl' => kk.use rfl rfl hI hS hl')
  case aload n =>
    simp only [mj_ok2] at hok
    have h3 := Nat.eq_of_beq_eq_true hok
    subst h3
    simp only [mj_step] at h
    cases hg : mj_get lv n with
    | none => simp only [hg] at h; cases h
    | some x =>
      simp only [hg] at h
      cases x <;> (try (cases h; done))
      cases h
      exact lv_aload hx hb hd (mj_get_at hl hg) (kk.use rfl rfl hI hS hl)
  case astore n =>
    simp only [mj_ok2, Bool.and_eq_true] at hok
    obtain ⟨h1, h2⟩ := hok
    have h3 := Nat.eq_of_beq_eq_true h2
    subst h3
    rcases st with _ | ⟨x1, st⟩
    · cases h
    · cases x1 <;> (try (cases h; done))
      cases h
      exact lv_astore hx hb hd hl (by simpa [Nat.blt_eq] using h1) (mj_s1_lm rho lv n (.ref _)) (fun ls' hl' => kk.use rfl rfl hI hS hl')
  case iinc n f =>
    simp only [mj_ok2, Bool.and_eq_true] at hok
    obtain ⟨h1, h2⟩ := hok
    have h3 := Nat.eq_of_beq_eq_true h2
    subst h3
    simp only [mj_step] at h
    cases hg : mj_get lv n with
    | none => simp only [hg] at h; cases h
    | some x =>
      simp only [hg] at h
      cases x <;> (try (cases h; done))
      cases h
      obtain ⟨j, hj⟩ := mj_get_ix (rho := rho) hg
      exact lv_iinc hx hb hd hl hj rfl (by simpa [Nat.blt_eq] using h1) (mj_s1_lm rho lv n (.int _)) (fun ls' hl' => kk.use rfl rfl hI hS hl')
  case goto f =>
    simp only [mj_ok2, Bool.and_eq_true, decide_eq_true_eq] at hok
    obtain ⟨hok, h2⟩ := hok
    have h3 := Nat.eq_of_beq_eq_true h2
    subst h3
    cases h
    exact lv_goto hx hb hd hok (kk.use rfl rfl hI hS hl)
  case ifCond cd f =>
    simp only [mj_ok2, Bool.and_eq_true, decide_eq_true_eq] at hok
    obtain ⟨h1, h2⟩ := hok
    have h3 := Nat.eq_of_beq_eq_true h2
    subst h3
    rcases st with _ | ⟨x1, st⟩
    · cases h
    · cases x1 <;> (try (cases h; done))
      rename_i z1
      cases cd <;> simp only [mj_step, mj_if] at h
      · by_cases hc : z1 = 0
        · rw [if_pos hc] at h
          cases h
          exact lv_if_eq hx hb hd h1 (fun _ => kk.use rfl rfl hI hS hl) (fun q => absurd hc q)
        · rw [if_neg hc] at h
          cases h
          exact lv_if_eq hx hb hd h1 (fun q => absurd q hc) (fun _ => kk.use rfl rfl hI hS hl)
      · by_cases hc : z1 = 0
        · rw [if_pos hc] at h
          cases h
          exact lv_if_ne hx hb hd h1 (fun q => absurd hc q) (fun _ => kk.use rfl rfl hI hS hl)
        · rw [if_neg hc] at h
          cases h
          exact lv_if_ne hx hb hd h1 (fun _ => kk.use rfl rfl hI hS hl) (fun q => absurd q hc)
      · by_cases hc : z1 < 0
        · rw [if_pos hc] at h
          cases h
          exact lv_if_lt hx hb hd h1 (fun _ => kk.use rfl rfl hI hS hl) (fun q => absurd hc q)
        · rw [if_neg hc] at h
          cases h
          exact lv_if_lt hx hb hd h1 (fun q => absurd q hc) (fun _ => kk.use rfl rfl hI hS hl)
      · by_cases hc : z1 < 0
        · rw [if_pos hc] at h
          cases h
          exact lv_if_ge hx hb hd h1 (fun q => absurd hc (Int32.not_lt.mpr q)) (fun _ => kk.use rfl rfl hI hS hl)
        · rw [if_neg hc] at h
          cases h
          exact lv_if_ge hx hb hd h1 (fun _ => kk.use rfl rfl hI hS hl) (fun q => absurd (Int32.not_lt.mp hc) q)
      · by_cases hc : 0 < z1
        · rw [if_pos hc] at h
          cases h
          exact lv_if_gt hx hb hd h1 (fun _ => kk.use rfl rfl hI hS hl) (fun q => absurd hc q)
        · rw [if_neg hc] at h
          cases h
          exact lv_if_gt hx hb hd h1 (fun q => absurd q hc) (fun _ => kk.use rfl rfl hI hS hl)
      · by_cases hc : 0 < z1
        · rw [if_pos hc] at h
          cases h
          exact lv_if_le hx hb hd h1 (fun q => absurd hc (Int32.not_lt.mpr q)) (fun _ => kk.use rfl rfl hI hS hl)
        · rw [if_neg hc] at h
          cases h
          exact lv_if_le hx hb hd h1 (fun _ => kk.use rfl rfl hI hS hl) (fun q => absurd (Int32.not_lt.mp hc) q)
  case if_icmp cd f =>
    simp only [mj_ok2, Bool.and_eq_true, decide_eq_true_eq] at hok
    obtain ⟨h1, h2⟩ := hok
    have h3 := Nat.eq_of_beq_eq_true h2
    subst h3
    rcases st with _ | ⟨x1, _ | ⟨x2, st⟩⟩
    · cases h
    · cases x1 <;> cases h
    · cases x1 <;> (try (cases h; done)) <;> cases x2 <;> (try (cases h; done))
      rename_i z1 z2
      cases cd <;> simp only [mj_step, mj_if] at h
      · by_cases hc : z2 = z1
        · rw [if_pos hc] at h
          cases h
          exact lv_icmp_eq hx hb hd h1 (fun _ => kk.use rfl rfl hI hS hl) (fun q => absurd hc q)
        · rw [if_neg hc] at h
          cases h
          exact lv_icmp_eq hx hb hd h1 (fun q => absurd q hc) (fun _ => kk.use rfl rfl hI hS hl)
      · by_cases hc : z2 = z1
        · rw [if_pos hc] at h
          cases h
          exact lv_icmp_ne hx hb hd h1 (fun q => absurd hc q) (fun _ => kk.use rfl rfl hI hS hl)
        · rw [if_neg hc] at h
          cases h
          exact lv_icmp_ne hx hb hd h1 (fun _ => kk.use rfl rfl hI hS hl) (fun q => absurd q hc)
      · by_cases hc : z2 < z1
        · rw [if_pos hc] at h
          cases h
          exact lv_icmp_lt hx hb hd h1 (fun _ => kk.use rfl rfl hI hS hl) (fun q => absurd hc q)
        · rw [if_neg hc] at h
          cases h
          exact lv_icmp_lt hx hb hd h1 (fun q => absurd q hc) (fun _ => kk.use rfl rfl hI hS hl)
      · by_cases hc : z2 < z1
        · rw [if_pos hc] at h
          cases h
          exact lv_icmp_ge hx hb hd h1 (fun q => absurd hc (Int32.not_lt.mpr q)) (fun _ => kk.use rfl rfl hI hS hl)
        · rw [if_neg hc] at h
          cases h
          exact lv_icmp_ge hx hb hd h1 (fun _ => kk.use rfl rfl hI hS hl) (fun q => absurd (Int32.not_lt.mp hc) q)
      · by_cases hc : z1 < z2
        · rw [if_pos hc] at h
          cases h
          exact lv_icmp_gt hx hb hd h1 (fun _ => kk.use rfl rfl hI hS hl) (fun q => absurd hc q)
        · rw [if_neg hc] at h
          cases h
          exact lv_icmp_gt hx hb hd h1 (fun q => absurd q hc) (fun _ => kk.use rfl rfl hI hS hl)
      · by_cases hc : z1 < z2
        · rw [if_pos hc] at h
          cases h
          exact lv_icmp_le hx hb hd h1 (fun q => absurd hc (Int32.not_lt.mpr q)) (fun _ => kk.use rfl rfl hI hS hl)
        · rw [if_neg hc] at h
          cases h
          exact lv_icmp_le hx hb hd h1 (fun _ => kk.use rfl rfl hI hS hl) (fun q => absurd (Int32.not_lt.mp hc) q)
  case ldc n =>
    simp only [mj_ok2, Bool.and_eq_true] at hok
    obtain ⟨h1, h2⟩ := hok
    have h3 := Nat.eq_of_beq_eq_true h2
    subst h3
    cases v with
    | ref r =>
      simp only at h1
      generalize hq : mj_str[r - 2000]? = z at h1
      cases z with
      | none => exact absurd h1 Bool.false_ne_true
      | some q =>
        simp only [Bool.and_eq_true] at h1
        obtain ⟨g1, g2, g3⟩ := h1
        have e1 := Nat.eq_of_beq_eq_true g1
        have e2 := Nat.eq_of_beq_eq_true g2
        have e3 : 2000 + (r - 2000) = r := Nat.add_sub_cancel' (Nat.le_of_ble_eq_true g3)
        have hz := hstr _ q hq
        rw [e1, e2, e3] at hz
        cases h
        exact va_ldcS hx hb hown hz hd (kk.use rfl rfl hI hS hl)
    | _ => exact absurd h1 Bool.false_ne_true
  case tableswitch df lo hi offs =>
    simp only [mj_ok2, Bool.and_eq_true, decide_eq_true_eq] at hok
    obtain ⟨g1, g2, g3, g4, g5⟩ := hok
    rcases st with _ | ⟨x1, st⟩
    · cases h
    · cases x1 <;> (try (cases h; done))
      rename_i x
      cases h
      have hlen : tl.length = offs.size := by
        have := congrArg List.length g5
        simpa using this
      by_cases hout : x.toInt < lo ∨ hi < x.toInt
      · refine lv_tableOut hx hb hd hout g1 ?_
        have hsw : mj_sw x a tl = a := by
          refine mj_sw_none tl fun q hq hxq => ?_
          obtain ⟨j, hj⟩ := List.mem_iff_getElem?.mp hq
          have h1 : (tl.map (fun q => q.1.toInt))[j]? = some q.1.toInt := by rw [List.getElem?_map, hj]; rfl
          have hjl : j < tl.length := (List.getElem?_eq_some_iff.mp hj).1
          rw [g5, List.getElem?_map, List.getElem?_range (by omega)] at h1
          have h2 : lo + (j : Int) = q.1.toInt := Option.some.inj h1
          rw [← hxq] at h2
          omega
        have := kk.use rfl rfl hI hS hl
        simp only [hsw] at this
        exact this
      · have hlo : ¬ x.toInt < lo := fun q => hout (Or.inl q)
        have hhi : ¬ hi < x.toInt := fun q => hout (Or.inr q)
        have hi1 : (x.toInt - lo).toNat < offs.size := by omega
        have hi2 : (x.toInt - lo).toNat < tl.length := by omega
        obtain ⟨f, hf⟩ : ∃ f, offs[(x.toInt - lo).toNat]? = some f := ⟨_, Array.getElem?_eq_getElem hi1⟩
        obtain ⟨q, hq⟩ : ∃ q, tl[(x.toInt - lo).toNat]? = some q := ⟨_, List.getElem?_eq_getElem hi2⟩
        have key : ∀ (j : Nat) (z : Int32 × Nat), tl[j]? = some z → z.1.toInt = lo + (j : Int) := by
          intro j z hj
          have h1 : (tl.map (fun q => q.1.toInt))[j]? = some z.1.toInt := by rw [List.getElem?_map, hj]; rfl
          have hjl : j < tl.length := (List.getElem?_eq_some_iff.mp hj).1
          rw [g5, List.getElem?_map, List.getElem?_range (by omega)] at h1
          exact (Option.some.inj h1).symm
        have hxq : x = q.1 := Int32.toInt_inj.mp (by rw [key _ q hq]; omega)
        have hsw : mj_sw x a tl = q.2 := mj_sw_some tl _ hq hxq (fun j z hj hz hxz => by
          have := key j z hz
          rw [← hxz] at this
          omega)
        have hto : (pc : Int) + f = (q.2 : Int) := by
          have h1 : (tl.map (fun q => ((q.2 : Nat) : Int)))[(x.toInt - lo).toNat]? = some (q.2 : Int) := by rw [List.getElem?_map, hq]; rfl
          rw [g4, List.getElem?_map, Array.getElem?_toList, hf] at h1
          exact Option.some.inj h1
        refine lv_tableIn hx hb hd hlo hhi hf hto ?_
        have := kk.use rfl rfl hI hS hl
        simp only [hsw] at this
        exact this
  case lookupswitch df ps =>
    simp only [mj_ok2, Bool.and_eq_true, decide_eq_true_eq] at hok
    obtain ⟨g1, g2, g3⟩ := hok
    rcases st with _ | ⟨x1, st⟩
    · cases h
    · cases x1 <;> (try (cases h; done))
      rename_i x
      cases h
      exact lv_lookup hx hb hd g2 rfl (mj_sw_look g1 tl ps.toList g3) (kk.use rfl rfl hI hS hl)
  case getfield n =>
    simp only [mj_ok2, Bool.and_eq_true] at hok
    obtain ⟨h1, h2⟩ := hok
    have h3 := Nat.eq_of_beq_eq_true h2
    subst h3
    rcases st with _ | ⟨x1, st⟩
    · cases h
    · cases x1 <;> (try (cases h; done))
      rename_i r
      simp only [mj_step] at h
      cases hcn : (Nat.blt r M.nr && (Nat.beq (mj_sh r).1 0 && Nat.beq (mj_sh r).2.1 a)) with
      | false => rw [hcn] at h; cases h
      | true =>
        rw [hcn] at h
        cases h
        simp only [Bool.and_eq_true, Nat.blt_eq] at hcn
        obtain ⟨c1, c2, c3⟩ := hcn
        obtain ⟨f, g1, g2, g3⟩ := mj_fk_use h1
        have hT := mj_T_at g1
        obtain ⟨-, -, hlay, -, -⟩ := mj_CFall a g3
        exact va_get (D := G.D) (ci := a) (T := mj_T a) (v := mj_vm rho (mj_rd M r b (mj_ft a b))) hx hb hts hlay hown hE.1 hI.1 r (mj_ws_ob c1 (Nat.eq_of_beq_eq_true c2) (Nat.eq_of_beq_eq_true c3)) (mj_cls_at g3) b (mj_fl_lt g1) (by rw [hT]; exact hts _ g2) (fun _ h9 => by rw [hT] at h9 ⊢; exact h9) (mj_fv_at (mj_fl_lt g1)) hd (kk.use rfl rfl hI hS hl)
  case putfield n =>
    simp only [mj_ok2, Bool.and_eq_true] at hok
    obtain ⟨h1, h2, hfn⟩ := hok
    have h3 := Nat.eq_of_beq_eq_true h2
    subst h3
    rcases st with _ | ⟨x1, _ | ⟨x2, st⟩⟩
    · cases h
    · cases x1 <;> cases h
    · cases x2 <;> (try (cases x1 <;> cases h <;> done))
      rename_i r
      have h' : (bif Nat.blt r M.nr && (Nat.beq (mj_sh r).1 0 && Nat.beq (mj_sh r).2.1 a) then (match mj_wr M r b (mj_ft a b) x1 with | some M2 => some (pc + 3, lv, st, M2) | none => none) else none) = some y := h
      clear h
      cases hcn : (Nat.blt r M.nr && (Nat.beq (mj_sh r).1 0 && Nat.beq (mj_sh r).2.1 a)) with
      | false => rw [hcn] at h'; cases h'
      | true =>
        rw [hcn] at h'
        simp only [cond_true] at h'
        cases hw : mj_wr M r b (mj_ft a b) x1 with
        | none => rw [hw] at h'; cases h'
        | some M2 =>
          rw [hw] at h'
          cases h'
          simp only [Bool.and_eq_true, Nat.blt_eq] at hcn
          obtain ⟨c1, c2, c3⟩ := hcn
          obtain ⟨f, g1, g2, g3⟩ := mj_fk_use h1
          have hT := mj_T_at g1
          obtain ⟨-, -, hlay, hpd, hnn⟩ := mj_CFall a g3
          obtain ⟨w1, w2, w3, w4, w5, w6, -, -, -, w10⟩ := mj_wr_spec hw
          obtain ⟨n1, n2⟩ := mj_wr_vm rho hw
          have e0 := Nat.eq_of_beq_eq_true c2
          have e1 := Nat.eq_of_beq_eq_true c3
          have hset := mj_ws_setf (cA := G.cA) (rho := rho) c1 e0 e1 (mj_fl_lt g1) hw
          rw [g1] at hfn
          simp only [Bool.or_eq_true, Bool.not_eq_true', Bool.and_eq_true, decide_eq_true_eq] at hfn
          have fin : ∀ (H1 : Heap) (locs1 : List Loc), va_P G.D mj_cls ((mj_ws G.cA rho M).set r (rho r, .inr (a, (mj_fv rho M r a).set b (mj_vm rho x1)))) H1 → va_D (mj_A G) ((mj_ws G.cA rho M).set r (rho r, .inr (a, (mj_fv rho M r a).set b (mj_vm rho x1)))) → va_S (mj_A G) s.heap H1 locs1 → W p l e R s m args below meth c H1 locs1 cells slots Q (F0 m (pc + 3) ls (mj_sm rho st)) := fun H1 locs1 q1 q2 q3 => by
            rw [hset] at q1 q2
            exact kk.use w2 w3 (hI.wr c1 w1 (fun r' hr => (w6 r' hr).1) w10 q1 q2) q3 hl
          by_cases hff : f.2.2.1 = false
          · exact va_put (D := G.D) (ci := a) (T := mj_T a) hx hb hts hlay (mj_ft a) hpd hnn hown hE.1 hI.1 hI.2.1 hS r (mj_ws_ob c1 e0 e1) (mj_cls_at g3) b (mj_fl_lt g1) (by rw [hT]; exact hts _ g2) (fun _ h9 => by rw [hT] at h9 ⊢; exact h9) (by rw [hT]; exact hff) (hpd b (mj_fl_lt g1)) n1 n2 (by rw [mj_fv_len]; exact mj_fl_lt g1) hd fin
          · obtain ⟨i1, i2⟩ := hfn.resolve_left hff
            have i3 := Nat.eq_of_beq_eq_true i2
            exact va_putF (D := G.D) (ci := a) (T := mj_T a) hx hb hts hlay (mj_ft a) hpd hnn hown hE.1 hI.1 hI.2.1 hS r (mj_ws_ob c1 e0 e1) (mj_cls_at g3) b (mj_fl_lt g1) (by rw [hT]; exact hts _ g2) (fun _ h9 => by rw [hT] at h9 ⊢; exact h9) (by rw [hT]; exact (Bool.not_eq_false _).mp hff) (hnm.trans i1) (by rw [hT, i3]) (hpd b (mj_fl_lt g1)) n1 n2 (by rw [mj_fv_len]; exact mj_fl_lt g1) hd fin
  case iaload =>
    simp only [mj_ok2] at hok
    have h3 := Nat.eq_of_beq_eq_true hok
    subst h3
    rcases st with _ | ⟨x1, _ | ⟨x2, st⟩⟩
    · cases h
    · cases x1 <;> cases h
    · cases x1 <;> (try (cases h; done)) <;> cases x2 <;> (try (cases h; done))
      rename_i i r
      simp only [mj_step] at h
      cases hv : mj_ald M 0 r i with
      | none => rw [hv] at h; cases h
      | some v0 =>
        rw [hv] at h
        cases h
        unfold mj_ald at hv
        cases hb1 : Nat.blt r M.nr with
        | true =>
          rw [hb1] at hv
          simp only [cond_true] at hv
          split at hv
          · rename_i hc
            cases hv
            exact va_iald hx hb hE.1 hI.1 r 0 (mj_ws_ai (by simpa [Nat.blt_eq] using hb1) hc.1 (by decide)) rfl (mj_in_vp hc.2) hd (kk.use rfl rfl hI hS hl)
          · cases hv
        | false =>
          rw [hb1] at hv
          simp only [cond_false] at hv
          split at hv
          · rename_i hc
            cases hv
            obtain ⟨rfl, -, hin⟩ := hc
            obtain ⟨-, -, -, -, j1, j2, j3⟩ := id hI
            obtain ⟨-, k2, k3, k4, k5, -⟩ := id hE
            rw [j3, nI_clamp k5] at hin
            have hbA : ¬ mj_A G G.sb := Nat.not_le.mpr k4
            have := va_sld (p := p) (l := l) (e := e) (R := R) (m := m) (args := args) (below := below) (meth := meth) (Q := Q) (rest := mj_sm rho st) (ls := ls) (cells := cells) (slots := slots) hx hb k3 (Nat.lt_of_lt_of_le k4 k2) hbA hS (mj_in_vp hin) hd (by
              have h9 := kk.use rfl rfl hI hS hl
              simp only [mj_sm, List.map_cons, mj_vm, j2] at h9 ⊢
              exact h9)
            simp only [mj_sm, List.map_cons, mj_vm, j1] at this ⊢
            exact this
          · cases hv
  case baload =>
    simp only [mj_ok2] at hok
    have h3 := Nat.eq_of_beq_eq_true hok
    subst h3
    rcases st with _ | ⟨x1, _ | ⟨x2, st⟩⟩
    · cases h
    · cases x1 <;> cases h
    · cases x1 <;> (try (cases h; done)) <;> cases x2 <;> (try (cases h; done))
      rename_i i r
      simp only [mj_step] at h
      cases hv : mj_ald M 2 r i with
      | none => rw [hv] at h; cases h
      | some v0 =>
        rw [hv] at h
        cases h
        unfold mj_ald at hv
        cases hb1 : Nat.blt r M.nr with
        | true =>
          rw [hb1] at hv
          simp only [cond_true] at hv
          split at hv
          · rename_i hc
            cases hv
            exact va_bald hx hb hE.1 hI.1 r 2 (mj_ws_ai (by simpa [Nat.blt_eq] using hb1) hc.1 (by decide)) rfl (mj_in_vp hc.2) hd (kk.use rfl rfl hI hS hl)
          · cases hv
        | false =>
          rw [hb1] at hv
          simp only [cond_false] at hv
          split at hv
          · rename_i hc
            exact absurd hc.2.1 (by decide)
          · cases hv
  case caload =>
    simp only [mj_ok2] at hok
    have h3 := Nat.eq_of_beq_eq_true hok
    subst h3
    rcases st with _ | ⟨x1, _ | ⟨x2, st⟩⟩
    · cases h
    · cases x1 <;> cases h
    · cases x1 <;> (try (cases h; done)) <;> cases x2 <;> (try (cases h; done))
      rename_i i r
      simp only [mj_step] at h
      cases hv : mj_ald M 3 r i with
      | none => rw [hv] at h; cases h
      | some v0 =>
        rw [hv] at h
        cases h
        unfold mj_ald at hv
        cases hb1 : Nat.blt r M.nr with
        | true =>
          rw [hb1] at hv
          simp only [cond_true] at hv
          split at hv
          · rename_i hc
            cases hv
            exact va_cald hx hb hE.1 hI.1 r 3 (mj_ws_ai (by simpa [Nat.blt_eq] using hb1) hc.1 (by decide)) rfl (mj_in_vp hc.2) hd (kk.use rfl rfl hI hS hl)
          · cases hv
        | false =>
          rw [hb1] at hv
          simp only [cond_false] at hv
          split at hv
          · rename_i hc
            exact absurd hc.2.1 (by decide)
          · cases hv
  case laload =>
    simp only [mj_ok2] at hok
    have h3 := Nat.eq_of_beq_eq_true hok
    subst h3
    rcases st with _ | ⟨x1, _ | ⟨x2, st⟩⟩
    · cases h
    · cases x1 <;> cases h
    · cases x1 <;> (try (cases h; done)) <;> cases x2 <;> (try (cases h; done))
      rename_i i r
      simp only [mj_step] at h
      cases hv : mj_ald M 1 r i with
      | none => rw [hv] at h; cases h
      | some v0 =>
        rw [hv] at h
        cases h
        unfold mj_ald at hv
        cases hb1 : Nat.blt r M.nr with
        | true =>
          rw [hb1] at hv
          simp only [cond_true] at hv
          split at hv
          · rename_i hc
            cases hv
            exact va_lald hx hb hE.1 hI.1 r 1 (mj_ws_al (by simpa [Nat.blt_eq] using hb1) hc.1) rfl (mj_in_vp hc.2) hd (kk.use rfl rfl hI hS hl)
          · cases hv
        | false =>
          rw [hb1] at hv
          simp only [cond_false] at hv
          split at hv
          · rename_i hc
            exact absurd hc.2.1 (by decide)
          · cases hv
  case iastore =>
    simp only [mj_ok2] at hok
    have h3 := Nat.eq_of_beq_eq_true hok
    subst h3
    rcases st with _ | ⟨x1, _ | ⟨x2, _ | ⟨x3, st⟩⟩⟩
    · cases h
    · cases x1 <;> cases h
    · cases x1 <;> (try (cases h; done)) <;> cases x2 <;> cases h
    · cases x1 <;> (try (cases h; done)) <;> cases x2 <;> (try (cases h; done)) <;> cases x3 <;> (try (cases h; done))
      rename_i x0 i r
      simp only [mj_step] at h
      cases hv : mj_asti M 0 r i x0 with
      | none => rw [hv] at h; cases h
      | some M2 =>
        rw [hv] at h
        cases h
        unfold mj_asti at hv
        cases hb1 : Nat.blt r M.nr with
        | false => rw [hb1] at hv; cases hv
        | true =>
          rw [hb1] at hv
          simp only [cond_true] at hv
          split at hv
          · rename_i hc
            cases hv
            have hr0 : r < M.nr := by simpa [Nat.blt_eq] using hb1
            exact va_iast hx hb hE.1 hI.1 hI.2.1 hS r 0 (mj_ws_ai hr0 hc.1 (by decide)) rfl (mj_in_vp hc.2) hd (fun H1 locs1 q1 q2 q3 => by
              rw [mj_ws_seti hr0 hc.1 (by decide)] at q1 q2
              exact kk.use rfl rfl (hI.wr hr0 rfl (fun r' hr => mj_up_off hr) (fun _ _ _ hq => Or.inl hq) q1 q2) q3 hl)
          · cases hv
  case bastore =>
    simp only [mj_ok2] at hok
    have h3 := Nat.eq_of_beq_eq_true hok
    subst h3
    rcases st with _ | ⟨x1, _ | ⟨x2, _ | ⟨x3, st⟩⟩⟩
    · cases h
    · cases x1 <;> cases h
    · cases x1 <;> (try (cases h; done)) <;> cases x2 <;> cases h
    · cases x1 <;> (try (cases h; done)) <;> cases x2 <;> (try (cases h; done)) <;> cases x3 <;> (try (cases h; done))
      rename_i x0 i r
      simp only [mj_step] at h
      cases hv : mj_asti M 2 r i (vp_nar .byte x0) with
      | none => rw [hv] at h; cases h
      | some M2 =>
        rw [hv] at h
        cases h
        unfold mj_asti at hv
        cases hb1 : Nat.blt r M.nr with
        | false => rw [hb1] at hv; cases hv
        | true =>
          rw [hb1] at hv
          simp only [cond_true] at hv
          split at hv
          · rename_i hc
            cases hv
            have hr0 : r < M.nr := by simpa [Nat.blt_eq] using hb1
            exact va_bast hx hb hE.1 hI.1 hI.2.1 hS r 2 (mj_ws_ai hr0 hc.1 (by decide)) rfl (mj_in_vp hc.2) hd (fun H1 locs1 q1 q2 q3 => by
              rw [mj_ws_seti hr0 hc.1 (by decide)] at q1 q2
              exact kk.use rfl rfl (hI.wr hr0 rfl (fun r' hr => mj_up_off hr) (fun _ _ _ hq => Or.inl hq) q1 q2) q3 hl)
          · cases hv
  case castore =>
    simp only [mj_ok2] at hok
    have h3 := Nat.eq_of_beq_eq_true hok
    subst h3
    rcases st with _ | ⟨x1, _ | ⟨x2, _ | ⟨x3, st⟩⟩⟩
    · cases h
    · cases x1 <;> cases h
    · cases x1 <;> (try (cases h; done)) <;> cases x2 <;> cases h
    · cases x1 <;> (try (cases h; done)) <;> cases x2 <;> (try (cases h; done)) <;> cases x3 <;> (try (cases h; done))
      rename_i x0 i r
      simp only [mj_step] at h
      cases hv : mj_asti M 3 r i (vp_nar .char x0) with
      | none => rw [hv] at h; cases h
      | some M2 =>
        rw [hv] at h
        cases h
        unfold mj_asti at hv
        cases hb1 : Nat.blt r M.nr with
        | false => rw [hb1] at hv; cases hv
        | true =>
          rw [hb1] at hv
          simp only [cond_true] at hv
          split at hv
          · rename_i hc
            cases hv
            have hr0 : r < M.nr := by simpa [Nat.blt_eq] using hb1
            exact va_cast hx hb hE.1 hI.1 hI.2.1 hS r 3 (mj_ws_ai hr0 hc.1 (by decide)) rfl (mj_in_vp hc.2) hd (fun H1 locs1 q1 q2 q3 => by
              rw [mj_ws_seti hr0 hc.1 (by decide)] at q1 q2
              exact kk.use rfl rfl (hI.wr hr0 rfl (fun r' hr => mj_up_off hr) (fun _ _ _ hq => Or.inl hq) q1 q2) q3 hl)
          · cases hv
  case lastore =>
    simp only [mj_ok2] at hok
    have h3 := Nat.eq_of_beq_eq_true hok
    subst h3
    rcases st with _ | ⟨x1, _ | ⟨x2, _ | ⟨x3, st⟩⟩⟩
    · cases h
    · cases x1 <;> cases h
    · cases x1 <;> (try (cases h; done)) <;> cases x2 <;> cases h
    · cases x1 <;> (try (cases h; done)) <;> cases x2 <;> (try (cases h; done)) <;> cases x3 <;> (try (cases h; done))
      rename_i x0 i r
      simp only [mj_step] at h
      cases hv : mj_astl M r i x0 with
      | none => rw [hv] at h; cases h
      | some M2 =>
        rw [hv] at h
        cases h
        unfold mj_astl at hv
        cases hb1 : Nat.blt r M.nr with
        | false => rw [hb1] at hv; cases hv
        | true =>
          rw [hb1] at hv
          simp only [cond_true] at hv
          split at hv
          · rename_i hc
            cases hv
            have hr0 : r < M.nr := by simpa [Nat.blt_eq] using hb1
            exact va_last hx hb hE.1 hI.1 hI.2.1 hS r 1 (mj_ws_al hr0 hc.1) rfl (mj_in_vp hc.2) hd (fun H1 locs1 q1 q2 q3 => by
              rw [mj_ws_setl hr0 hc.1] at q1 q2
              exact kk.use rfl rfl (hI.wr hr0 rfl (fun r' hr => rfl) (fun _ _ _ hq => Or.inl hq) q1 q2) q3 hl)
          · cases hv
  case arraylength =>
    simp only [mj_ok2] at hok
    have h3 := Nat.eq_of_beq_eq_true hok
    subst h3
    rcases st with _ | ⟨x1, st⟩
    · cases h
    · cases x1 <;> (try (cases h; done))
      rename_i r
      simp only [mj_step] at h
      cases hb1 : Nat.beq r 3000 with
      | true =>
        rw [hb1] at h
        cases h
        have hr3 : r = 3000 := Nat.eq_of_beq_eq_true hb1
        subst hr3
        obtain ⟨-, -, -, -, j1, j2, j3⟩ := id hI
        obtain ⟨-, k2, k3, k4, k5, -⟩ := id hE
        have hbA : ¬ mj_A G G.sb := Nat.not_le.mpr k4
        have := va_slen (p := p) (l := l) (e := e) (R := R) (m := m) (args := args) (below := below) (meth := meth) (Q := Q) (rest := mj_sm rho st) (ls := ls) (cells := cells) (slots := slots) hx hb k3 (Nat.lt_of_lt_of_le k4 k2) hbA hS hd (by
          have h9 := kk.use rfl rfl hI hS hl
          simp only [mj_sm, List.map_cons, mj_vm, j3] at h9 ⊢
          exact h9)
        simp only [mj_sm, List.map_cons, mj_vm, j1] at this ⊢
        exact this
      | false =>
        rw [hb1] at h
        simp only [cond_false] at h
        cases hb2 : (Nat.blt r M.nr && Nat.beq (mj_sh r).1 1) with
        | false => rw [hb2] at h; cases h
        | true =>
          rw [hb2] at h
          cases h
          simp only [Bool.and_eq_true, Nat.blt_eq] at hb2
          have hs1 := Nat.eq_of_beq_eq_true hb2.2
          have hr86 := mj_sh_in (r := r) (by omega)
          have ht4 := (mj_sh_t r hr86 hs1).1
          have hsh : mj_sh r = (1, (mj_sh r).2.1, (mj_sh r).2.2) := by rw [← hs1]
          by_cases ht1 : (mj_sh r).2.1 = 1
          · exact va_alen hx hb hE.1 hI.1 r 1 (mj_ws_al hb2.1 (by have h7 := hsh; rw [ht1] at h7; exact h7)) (ty := .long) rfl rfl hd (kk.use rfl rfl hI hS hl)
          · have hty : (mj_tys G.cA)[(mj_sh r).2.1]? = some (G.cA (mj_sh r).2.1, mj_aty (mj_sh r).2.1) := by
              generalize (mj_sh r).2.1 = t at ht4
              match t, ht4 with
              | 0, _ => rfl
              | 1, _ => rfl
              | 2, _ => rfl
              | 3, _ => rfl
            exact va_alen hx hb hE.1 hI.1 r (mj_sh r).2.1 (mj_ws_ai hb2.1 hsh ht1) hty rfl hd (kk.use rfl rfl hI hS hl)
  case new n =>
    simp only [mj_ok2, Bool.and_eq_true] at hok
    obtain ⟨h2, h1⟩ := hok
    have h3 := Nat.eq_of_beq_eq_true h2
    subst h3
    have h' : (if mj_sh M.nr = (0, a, b) ∧ mj_fresh M.nr lv st = true then some (pc + 3, lv, Value.ref M.nr :: st, mj_new M b) else none) = some y := h
    clear h
    split at h'
    · rename_i hc
      cases h'
      obtain ⟨hsh, hfr⟩ := hc
      have hsh86 := mj_sh_in (r := M.nr) (by rw [hsh]; show 0 < 2; decide)
      have ha : a < 100 := by have := mj_sh_a M.nr hsh86 (by rw [hsh]); rw [hsh] at this; exact Nat.lt_of_lt_of_le this (by decide)
      have h1' : mj_ckin X.2.2.2.2.1 n a = true ∧ Nat.beq b (mj_fl a).length = true := by
        rcases Bool.or_eq_true _ _ |>.mp h1 with q | q
        · exact absurd (Nat.le_of_ble_eq_true q) (by omega)
        · exact Bool.and_eq_true _ _ |>.mp q
      obtain ⟨g1, g2⟩ := mj_ck_use h1'.1
      have hbN := Nat.eq_of_beq_eq_true h1'.2
      subst hbN
      obtain ⟨c1, c2, c3, c4, c5⟩ := mj_CFall a g2
      obtain ⟨i1, i2, i3, i4, i5, i6, i7⟩ := id hI
      have hA : ∀ q, s.heap.size ≤ q → mj_A G q := fun q hq => Nat.le_trans hE.2.1 hq
      have hR1 : cells + 1 ≤ R.cells := by have h8 : cells + (M.nc + 1 - M.nc) ≤ R.cells := hR.1; omega
      have hR2 : slots + (mj_fl a).length ≤ R.slots := by have h8 : slots + (M.ns + (mj_fl a).length - M.ns) ≤ R.slots := hR.2; omega
      refine va_new (D := G.D) (ci := a) (T := mj_T a) (fs := mj_fv (fun r => r) (mj_new M (mj_fl a).length) M.nr a) hx hb hts c3 (mj_ft a) c4 hown (hts _ g1) (hts _ c2) (hts _ c1) hE.1 i1 i2 hS hA (mj_cls_at g2) (mj_fv0 g2) hR1 hR2 hd (fun q H1 q1 q2 q3 => ?_)
      have hce : mj_ce G.cA (mj_ex rho M.nr q) (mj_new M (mj_fl a).length) M.nr = .inr (a, mj_fv (fun r => r) (mj_new M (mj_fl a).length) M.nr a) := by
        simp only [mj_ce, hsh, if_pos]
        congr 2
        refine List.map_congr_left fun j hj => ?_
        have hj := List.mem_range.mp hj
        rw [mj_rd0 _ _ _ _ _ (mj_ft_or g2 hj), mj_rd0 _ _ _ _ _ (mj_ft_or g2 hj)]
      have hws := mj_ws_new (cA := G.cA) (rho := rho) (n := (mj_fl a).length) (q := q) i3 i4
      rw [hce] at hws
      rw [← hws] at q1 q2
      obtain ⟨f1, f2⟩ := mj_fresh_lm (q := q) (rho := rho) i3 hfr
      have hin : mj_In G (mj_ex rho M.nr q) (mj_new M (mj_fl a).length) H1 := by
        refine ⟨q1, q2, by show M.nr + 1 ≤ 1000; omega, fun r k z hz => ?_, ?_, ?_, ?_⟩
        · have hz : (if r = M.nr then none else M.F r k) = some z := hz
          split at hz
          · cases hz
          · have := i4 r k z hz
            show z < M.nr + 1
            omega
        · unfold mj_ex; rw [if_neg (by omega)]; exact i5
        · funext j; show (if 3000 = M.nr then 0 else M.I 3000 j) = _; rw [if_neg (by omega), i6]
        · show (if 3001 = M.nr then 0 else M.I 3001 0) = _; rw [if_neg (by omega), i7]
      have h9 := kk (mj_ex rho M.nr q) H1 locs ls (mj_ex_ag i3) hin q3 (by rw [f1]; exact hl)
      rw [show (mj_new M (mj_fl a).length).nc - M.nc = 1 from Nat.add_sub_cancel_left _ _, show (mj_new M (mj_fl a).length).ns - M.ns = (mj_fl a).length from Nat.add_sub_cancel_left _ _] at h9
      have hst : mj_sm (mj_ex rho M.nr q) (Value.ref M.nr :: st) = .ref q :: mj_sm rho st := by
        show mj_vm _ _ :: mj_sm (mj_ex rho M.nr q) st = _
        rw [f2]
        simp [mj_vm, mj_ex]
      rw [hst] at h9
      exact h9
    · cases h' 
  case newarray n =>
    simp only [mj_ok2, Bool.and_eq_true, decide_eq_true_eq] at hok
    obtain ⟨g1, g2, h2⟩ := hok
    have h3 := Nat.eq_of_beq_eq_true h2
    subst h3
    have ga : a < 4 := by simpa [Nat.blt_eq] using g2
    rcases st with _ | ⟨x1, st⟩
    · cases h
    · cases x1 <;> (try (cases h; done))
      rename_i z
      have h' : (if mj_sh M.nr = (1, a, z.toNatClampNeg) ∧ ¬ z < 0 ∧ mj_fresh M.nr lv st = true then some (pc + 2, lv, Value.ref M.nr :: st, mj_new M z.toNatClampNeg) else none) = some y := h
      clear h
      split at h'
      · rename_i hc
        cases h'
        obtain ⟨hsh, hz0, hfr⟩ := hc
        have hsh86 := mj_sh_in (r := M.nr) (by rw [hsh]; show 1 < 2; decide)
        obtain ⟨-, hlen⟩ := mj_sh_t M.nr hsh86 (by rw [hsh])
        rw [hsh] at hlen
        obtain ⟨i1, i2, i3, i4, i5, i6, i7⟩ := id hI
        have hA : ∀ q, s.heap.size ≤ q → mj_A G q := fun q hq => Nat.le_trans hE.2.1 hq
        have hR1 : cells + 1 ≤ R.cells := by have h8 : cells + (M.nc + 1 - M.nc) ≤ R.cells := hR.1; omega
        have hR2 : slots + z.toNatClampNeg ≤ R.slots := by have h8 : slots + (M.ns + z.toNatClampNeg - M.ns) ≤ R.slots := hR.2; omega
        have hbytes : z.toNatClampNeg * componentBytes (mj_aty a) ≤ 536870912 := by
          have : componentBytes (mj_aty a) ≤ 8 := by
            match a, ga with
            | 0, _ => decide
            | 1, _ => decide
            | 2, _ => decide
            | 3, _ => decide
          have hl2 : z.toNatClampNeg < 1000 := hlen
          have := Nat.mul_le_mul (Nat.le_of_lt hl2) this
          omega
        refine va_newa (D := G.D) (a0 := (z.toNatClampNeg, if a = 1 then .inr (.inl (fun _ => 0)) else .inl (fun _ => 0))) hx hb (by rw [g1]; exact hts _ (mj_ar a ga)) g1 hE.1 i1 i2 hS hA ?_ hz0 rfl hbytes hR1 hR2 hd (fun q cA H1 q0 q1 q2 q3 => ?_)
        · intro cA
          match a, ga with
          | 0, _ => rfl
          | 1, _ => rfl
          | 2, _ => rfl
          | 3, _ => rfl
        have hcA : cA = G.cA a := by
          have e1 := (q0.2 4 (cA, mj_aty a) rfl).2
          have e2 := (hE.1.2 a (G.cA a, mj_aty a) (by
            match a, ga with
            | 0, _ => rfl
            | 1, _ => rfl
            | 2, _ => rfl
            | 3, _ => rfl)).2
          match a, ga, e1, e2 with
          | 0, _, e1, e2 => exact Option.some.inj (e1.symm.trans e2)
          | 1, _, e1, e2 => exact Option.some.inj (e1.symm.trans e2)
          | 2, _, e1, e2 => exact Option.some.inj (e1.symm.trans e2)
          | 3, _, e1, e2 => exact Option.some.inj (e1.symm.trans e2)
        subst hcA
        have hce : mj_ce G.cA (mj_ex rho M.nr q) (mj_new M z.toNatClampNeg) M.nr = .inl (G.cA a, (z.toNatClampNeg, if a = 1 then .inr (.inl (fun _ => 0)) else .inl (fun _ => 0))) := by
          have e1 : (mj_new M z.toNatClampNeg).I M.nr = fun _ => 0 := by funext j; show (if M.nr = M.nr then (0 : Int32) else _) = 0; rw [if_pos rfl]
          have e2 : (mj_new M z.toNatClampNeg).L M.nr = fun _ => 0 := by funext j; show (if M.nr = M.nr then (0 : Int64) else _) = 0; rw [if_pos rfl]
          simp only [mj_ce, hsh, e1, e2]
          rfl
        have hws := mj_ws_new (cA := G.cA) (rho := rho) (n := z.toNatClampNeg) (q := q) i3 i4
        rw [hce] at hws
        rw [← hws] at q1 q2
        obtain ⟨f1, f2⟩ := mj_fresh_lm (q := q) (rho := rho) i3 hfr
        have hin : mj_In G (mj_ex rho M.nr q) (mj_new M z.toNatClampNeg) H1 := by
          refine ⟨q1, q2, by show M.nr + 1 ≤ 1000; omega, fun r k w hw => ?_, ?_, ?_, ?_⟩
          · have hw : (if r = M.nr then none else M.F r k) = some w := hw
            split at hw
            · cases hw
            · have := i4 r k w hw
              show w < M.nr + 1
              omega
          · unfold mj_ex; rw [if_neg (by omega)]; exact i5
          · funext j; show (if 3000 = M.nr then 0 else M.I 3000 j) = _; rw [if_neg (by omega), i6]
          · show (if 3001 = M.nr then 0 else M.I 3001 0) = _; rw [if_neg (by omega), i7]
        have h9 := kk (mj_ex rho M.nr q) H1 locs ls (mj_ex_ag i3) hin q3 (by rw [f1]; exact hl)
        rw [show (mj_new M z.toNatClampNeg).nc - M.nc = 1 from Nat.add_sub_cancel_left _ _, show (mj_new M z.toNatClampNeg).ns - M.ns = z.toNatClampNeg from Nat.add_sub_cancel_left _ _] at h9
        have hst : mj_sm (mj_ex rho M.nr q) (Value.ref M.nr :: st) = .ref q :: mj_sm rho st := by
          show mj_vm _ _ :: mj_sm (mj_ex rho M.nr q) st = _
          rw [f2]
          simp [mj_vm, mj_ex]
        rw [hst] at h9
        exact h9
      · cases h' 
  all_goals (cases h)
end MJS
