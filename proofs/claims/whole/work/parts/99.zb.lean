/-! EXCEPTIONS CAUGHT: the search through a table of rows whose classes link, resolved already or not yet -/
/-- the row z names a class that links, and the object's class fits it (b) or does not -/
def mq_tk (s : State) (e : Env) (f : JFrame) (ce : Cell) (z : ExceptionTableEntry) (b : Bool) : Prop :=
  z.catchType ≠ 0 ∧ ∃ k : ClassId, s.vm.ClassLinks e.platform f.method.cls z.catchType k ∧ s.vm.assignable ce.cls k = b
/-- one row that covers the place is looked at: her class is noted, and then it is decided -/
theorem mq_look {s S : State} {e : Env} {f : JFrame} {a : Addr} {ce : Cell} {z : ExceptionTableEntry} {b : Bool} (hz : covers z f.pc = true) (ht : mq_tk s e f ce z b) (hW : s.WarmedH S.vm)
    (hce : S.heap[a]? = some ce) (hv : ce.vm = .none) (hc0 : ∃ k0, s.vm.classes[ce.cls]? = some k0) :
    ∃ V : Vm, s.WarmedH V ∧ ∀ (t : List ExceptionTableEntry) (Q : Handler → Pre) (E : CtlPost) (d : Bool) (acts : List Action),
      wp (findHandler.go f a (z :: t)) Q E e d acts S ↔ if b = true then Q (.found z.handlerPc) d acts (S.setVm V) else wp (findHandler.go f a t) Q E e d acts (S.setVm V) := by
  obtain ⟨hn, k, hl, hb⟩ := ht
  obtain ⟨_, _, _, kz, hd, _, _, _, _, hkz, _, hop⟩ := hl.here
  have hV : s.WarmedH (S.vm.noted f.method.cls z.catchType (.cls k)) := hW.noted hd hop (State.rightAt_cls hl)
  refine ⟨_, hV, fun t Q E d acts => ?_⟩
  obtain ⟨r1, r2⟩ := (resolveClass_links e.toSetting (hW.classLinks hl)).op (op := VmOp.resolveClass f.method.cls z.catchType) rfl
  obtain ⟨k0, h0⟩ := hc0
  obtain ⟨_, g0, -⟩ := hV.alike.2.2 _ _ h0
  obtain ⟨_, g1, -⟩ := hV.alike.2.2 _ _ hkz
  have g2 := hV.alike.assignable ce.cls k
  rw [hb] at g2
  have hs : ∀ j, ce.vm ≠ .statics j := fun j hj => by rw [hv] at hj; cases hj
  simp only [covers] at hz
  cases b <;> simp [findHandler.go, hz, hn, r1, r2, hce, hs, g0, g1, g2, VmOp.dirties, VmOp.acts]
/-- the rows pre pass, the row x takes it -/
theorem mq_find {s : State} {e : Env} {f : JFrame} {a : Addr} {ce : Cell} {x : ExceptionTableEntry} {suf : List ExceptionTableEntry} (hx : covers x f.pc = true) (hk : mq_tk s e f ce x true)
    (hv : ce.vm = .none) (hc0 : ∃ k0, s.vm.classes[ce.cls]? = some k0) :
    ∀ (pre : List ExceptionTableEntry) (S : State), (∀ z ∈ pre, covers z f.pc = false ∨ mq_tk s e f ce z false) → s.WarmedH S.vm → S.heap[a]? = some ce →
      ∃ V : Vm, s.WarmedH V ∧ ∀ (Q : Handler → Pre) (E : CtlPost) (d : Bool) (acts : List Action), wp (findHandler.go f a (pre ++ x :: suf)) Q E e d acts S ↔ Q (.found x.handlerPc) d acts (S.setVm V)
  | [], S, _, hW, hce => by
    obtain ⟨V, h1, h2⟩ := mq_look hx hk hW hce hv hc0
    exact ⟨V, h1, fun Q E d acts => by simpa using h2 suf Q E d acts⟩
  | z :: pre, S, hp, hW, hce => by
    have hp' : ∀ y ∈ pre, covers y f.pc = false ∨ mq_tk s e f ce y false := fun y hy => hp y (List.mem_cons_of_mem _ hy)
    cases hz : covers z f.pc with
    | false =>
      obtain ⟨V, h1, h2⟩ := mq_find (suf := suf) hx hk hv hc0 pre S hp' hW hce
      exact ⟨V, h1, fun Q E d acts => (W.findHandler_go_skip hz).trans (h2 Q E d acts)⟩
    | true =>
      have hn : mq_tk s e f ce z false := by
        rcases hp z (List.mem_cons_self ..) with h | h
        · rw [hz] at h; cases h
        · exact h
      obtain ⟨V, h1, h2⟩ := mq_look hz hn hW hce hv hc0
      obtain ⟨U, h3, h4⟩ := mq_find (suf := suf) hx hk hv hc0 pre (S.setVm V) hp' h1 hce
      exact ⟨U, h3, fun Q E d acts => ((h2 (pre ++ x :: suf) Q E d acts).trans (by simp)).trans (h4 Q E d acts)⟩
/-- one step from 'thrown over the frame' to the handler, the classes that were looked at noted -/
theorem mq_step {e : Env} {S : State} {a : Addr} {f : JFrame} {r : List Frame} {pc : Nat} {V : Vm} (h : ∀ (Q : Handler → Pre) (E : CtlPost) (d : Bool) (acts : List Action), wp (findHandler f a) Q E e d acts S ↔ Q (.found pc) d acts (S.setVm V)) :
    (stepThrowing e S a (.java f :: r)).1 = (S.setVm V).setFrames (.java { f with pc := pc, stack := [.ref a] } :: r) := by
  simp only [stepThrowing, searchFrame, vmDo]
  generalize hr : Sem.go _ e false [] S = res
  obtain ⟨as, rfl, -⟩ := Sem.eq_ok_of hr (a := Handler.found pc) (s' := S.setVm V) (acts' := []) (by simp [h _ _ _ _])
  rfl
/-- thrown over the frame g of this method, taken by the row x of its own table -/
theorem mq_steps {p : Program} {l : Launch} {e : Env} {R : Room} {s : State} {m : MethodId} {args : Array Value} {below : List Frame} {meth : Method} {c : Code} {T : State} {locs : List Loc} {cells slots : Nat} {g : JFrame} {a : Addr} {ce : Cell}
    (X : Stand p l e R s m args below meth c T locs cells slots) (hg : g.method = m) {pre suf : List ExceptionTableEntry} {x : ExceptionTableEntry} (htab : c.exceptionTable.toList = pre ++ x :: suf)
    (hp : ∀ z ∈ pre, covers z g.pc = false ∨ mq_tk s e g ce z false) (hx : covers x g.pc = true) (hk : mq_tk s e g ce x true) (hce : T.heap[a]? = some ce) (hv : ce.vm = .none) (hc0 : ∃ k0, s.vm.classes[ce.cls]? = some k0) :
    ∃ V : Vm, Stand p l e R s m args below meth c (T.setVm V) locs cells slots ∧ Steps p.tables e below ((T.setTop g).pushFrame (.throwing a)) ((T.setVm V).setTop { g with pc := x.handlerPc, stack := [.ref a] }) := by
  subst hg
  obtain ⟨V, h1, h2⟩ := mq_find (suf := suf) hx hk hv hc0 pre ((T.setTop g).pushFrame (.throwing a)) hp (by rw [Stand.throwing_vm]; exact X.warmed) (by rw [Stand.throwing_heap]; exact hce)
  refine ⟨V, X.noted h1, ?_⟩
  obtain ⟨u1, u2⟩ := At.throwing X.here a
  refine Steps.head u1 u2 ?_
  have hf : ∀ (Q : Handler → Pre) (E : CtlPost) (d : Bool) (acts : List Action), wp (findHandler g a) Q E e d acts ((T.setTop g).pushFrame (.throwing a)) ↔ Q (.found x.handlerPc) d acts (((T.setTop g).pushFrame (.throwing a)).setVm V) := fun Q E d acts => by
    rw [W.findHandler_eq (meth := meth) (code := c) (by rw [Stand.throwing_vm]; exact X.method') X.code, htab]
    exact h2 Q E d acts
  rw [stepThread_throwing (frames_entered X.here.top _), mq_step hf]
  obtain ⟨g0, hfr⟩ := X.frames_eq
  have hfr' : (T.setVm V).frames = .java g0 :: below := hfr
  rw [State.setTop_of_frames _ hfr', hfr, List.tail_cons, State.setTop_of_frames _ hfr]
  have hu : ∀ (U : State) (F G : List Frame), ((U.setFrames F).setVm V).setFrames G = (U.setVm V).setFrames G := fun U F G => State.setFrames_setFrames (U.setVm V) F G
  rw [State.pushFrame, hu, hu]
  exact Steps.refl _
theorem vx_catch {p : Program} {l : Launch} {e : Env} {R : Room} {s : State} {m : MethodId} {args : Array Value} {below : List Frame} {meth : Method} {c : Code} {H : Heap} {locs : List Loc} {cells slots : Nat} {ls : Array Slot} {rest : List Value} {Q : State → Prop} {pc : Nat} {own name : String} {E : String} {ce : Cell} {q : Addr} (hown : s.vm.findClass own = some m.cls) (pre : List ExceptionTableEntry) (x : ExceptionTableEntry) (suf : List ExceptionTableEntry) (hsplit : c.exceptionTable.toList = pre ++ x :: suf)
    (hpass : ∀ z ∈ pre, covers z pc = false ∨ (z.catchType ≠ 0 ∧ ∃ nm : String, (Cond.classLink own z.catchType nm).before args s = true ∧ va_Nc E nm s)) (hx : covers x pc = true) (h0 : x.catchType ≠ 0)
    (hlink : (Cond.classLink own x.catchType name).before args s = true) (hcast : (Cond.castable E name).before args s = true) (hcell : H[q]? = some ce) (hv : ce.vm = .none) (hcl : s.vm.findClass E = some ce.cls)
    (kk : W p l e R s m args below meth c H locs cells slots Q (F0 m x.handlerPc ls [.ref q])) : vx_W p l e R s m args below meth c H locs cells slots Q (F0 m pc ls rest) q := by
  intro T hT X
  have hpl : e.platform.magicAccessors = ({} : Platform).magicAccessors := by rw [X.admits.platform]
  have hxk : mq_tk s e (F0 m pc ls rest) ce x true := by
    obtain ⟨i, j, h1, h2, h3⟩ := Cond.castable_spec hcast
    obtain ⟨j', h4, h5⟩ := Cond.classLink_spec hown hlink e.platform hpl
    cases Option.some.inj (h1.symm.trans hcl)
    cases Option.some.inj (h2.symm.trans h4)
    exact ⟨h0, j, h5, h3⟩
  have hpk : ∀ z ∈ pre, covers z pc = false ∨ mq_tk s e (F0 m pc ls rest) ce z false := fun z hz => (hpass z hz).imp id fun ⟨hz0, nm, g1, i, j, h1, h2, h3⟩ => by
    obtain ⟨j', h4, h5⟩ := Cond.classLink_spec hown g1 e.platform hpl
    cases Option.some.inj (h1.symm.trans hcl)
    cases Option.some.inj (h2.symm.trans h4)
    exact ⟨hz0, j, h5, h3⟩
  obtain ⟨V, X', st⟩ := mq_steps (g := F0 m pc ls rest) (a := q) X rfl hsplit hpk hx hxk (by rw [hT]; exact hcell) hv (Vm.classAt_of_findClass hcl)
  obtain ⟨t, b1, b2⟩ := kk (T.setVm V) hT X'
  exact ⟨t, st.trans b1, b2⟩
set_option maxRecDepth 20000 in
theorem mj_hk0 : Cond.classLink (mj_cn 12) 13 (mj_en 0) ∈ mj_GT := mj_t2 (i := 106) rfl rfl
set_option maxRecDepth 100000 in
theorem mj_hc0 : Cond.castable (mj_en 0) (mj_en 0) ∈ lw_tbl := by decide +kernel
set_option maxRecDepth 20000 in
theorem mj_hk1 : Cond.classLink (mj_cn 12) 15 (mj_en 1) ∈ mj_GT := mj_t2 (i := 107) rfl rfl
set_option maxRecDepth 100000 in
theorem mj_hc1 : Cond.castable (mj_en 1) (mj_en 1) ∈ lw_tbl := by decide +kernel
set_option maxRecDepth 20000 in
theorem mj_hk2 : Cond.classLink (mj_cn 12) 21 (mj_en 2) ∈ mj_GT := mj_t2 (i := 205) rfl rfl
set_option maxRecDepth 100000 in
theorem mj_hc2 : Cond.castable (mj_en 2) (mj_en 2) ∈ lw_tbl := by decide +kernel
theorem mj_covers {a b h t pc : Nat} (h1 : a ≤ pc) (h2 : pc < b) : covers ⟨a, b, h, t⟩ pc = true := by simp [covers, h1, h2]
theorem mj_catch (G : mj_G) (rho0 adV : Nat → Nat) : mj_CatchLaw (mj_Zs G rho0 adV) G := by
  intro k pc q hp X p l e R s m args below meth c Q H locs ls cells slots rest ce q9 hX hh hC hE hS h9 hv hcl kk
  obtain ⟨-, -, -, -, hown, hw, -, -, htab⟩ := hC
  obtain ⟨-, -, -, -, -, hz⟩ := hE
  have hb := hz.2.2.2.1
  have hnc := hz.2.2.2.2.2.2
  have lk0 := hw _ mj_hk0
  have lk1 := hw _ mj_hk1
  have lk2 := hw _ mj_hk2
  have ca0 : (Cond.castable (mj_en 0) (mj_en 0)).before args s = true := va_Nw.use rfl (hb _ mj_hc0 rfl)
  have ca1 : (Cond.castable (mj_en 1) (mj_en 1)).before args s = true := va_Nw.use rfl (hb _ mj_hc1 rfl)
  have ca2 : (Cond.castable (mj_en 2) (mj_en 2)).before args s = true := va_Nw.use rfl (hb _ mj_hc2 rfl)
  have n1 : va_Nc (mj_en 1) (mj_en 0) s := hnc _ (List.mem_cons_self ..)
  have n2 : va_Nc (mj_en 2) (mj_en 0) s := hnc _ (List.mem_cons_of_mem _ (List.mem_cons_self ..))
  unfold mj_hd at hh
  simp only [Bool.cond_eq_ite, Nat.beq_eq] at hh
  split at hh
  · subst k
    cases (show mj_mt 199 = some _ from rfl).symm.trans hX
    simp only [mj_hdl, Bool.cond_eq_ite, Bool.and_eq_true, Nat.ble_eq, Nat.blt_eq, Nat.beq_eq] at hh
    split at hh
    · rename_i h1
      obtain ⟨ha, hb1, rfl⟩ := h1
      cases hh
      exact vx_catch hown [] ⟨0, 11, 14, 13⟩ _ htab (fun z hz => absurd hz List.not_mem_nil) (mj_covers ha hb1) (by decide) lk0 ca0 h9 hv hcl kk
    · split at hh
      · rename_i h1
        obtain ⟨ha, hb1, rfl⟩ := h1
        cases hh
        exact vx_catch hown [⟨0, 11, 14, 13⟩] ⟨0, 11, 18, 15⟩ _ htab (fun z hz => by cases List.mem_singleton.mp hz; exact Or.inr ⟨by decide, _, lk0, n1⟩) (mj_covers ha hb1) (by decide) lk1 ca1 h9 hv hcl kk
      · cases hh
  · split at hh
    · subst k
      cases (show mj_mt 200 = some _ from rfl).symm.trans hX
      simp only [mj_hdl, Bool.cond_eq_ite, Bool.and_eq_true, Nat.ble_eq, Nat.blt_eq, Nat.beq_eq] at hh
      split at hh
      · rename_i h1
        obtain ⟨ha, hb1, rfl⟩ := h1
        cases hh
        exact vx_catch hown [] ⟨0, 8, 11, 13⟩ _ htab (fun z hz => absurd hz List.not_mem_nil) (mj_covers ha hb1) (by decide) lk0 ca0 h9 hv hcl kk
      · split at hh
        · rename_i h1
          obtain ⟨ha, hb1, rfl⟩ := h1
          cases hh
          exact vx_catch hown [⟨0, 8, 11, 13⟩] ⟨0, 8, 14, 21⟩ _ htab (fun z hz => by cases List.mem_singleton.mp hz; exact Or.inr ⟨by decide, _, lk0, n2⟩) (mj_covers ha hb1) (by decide) lk2 ca2 h9 hv hcl kk
        · cases hh
    · split at hh
      · subst k
        cases (show mj_mt 201 = some _ from rfl).symm.trans hX
        simp only [mj_hdl, Bool.cond_eq_ite, Bool.and_eq_true, Nat.ble_eq, Nat.blt_eq, Nat.beq_eq] at hh
        split at hh
        · rename_i h1
          obtain ⟨ha, hb1, rfl⟩ := h1
          cases hh
          exact vx_catch hown [] ⟨0, 8, 11, 15⟩ _ htab (fun z hz => absurd hz List.not_mem_nil) (mj_covers ha hb1) (by decide) lk1 ca1 h9 hv hcl kk
        · cases hh
      · split at hh
        · subst k
          cases (show mj_mt 202 = some _ from rfl).symm.trans hX
          simp only [mj_hdl, Bool.cond_eq_ite, Bool.and_eq_true, Nat.ble_eq, Nat.blt_eq, Nat.beq_eq] at hh
          split at hh
          · rename_i h1
            obtain ⟨ha, hb1, rfl⟩ := h1
            cases hh
            exact vx_catch hown [] ⟨0, 8, 11, 15⟩ _ htab (fun z hz => absurd hz List.not_mem_nil) (mj_covers ha hb1) (by decide) lk1 ca1 h9 hv hcl kk
          · cases hh
        · cases hh
