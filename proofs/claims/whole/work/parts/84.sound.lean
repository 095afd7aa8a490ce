/-! THE MINI MACHINE IS SOUND: the theorem (the JDK's own and catching: as laws, paid later) -/
/-- the end of a run that returns -/
def mj_K1 (G : mj_G) (rho0 : Nat → Nat) (k : Nat) (X : mj_X) (p : Program) (l : Launch) (e : Env) (R : Room) (s : State) (m : MethodId) (args : Array Value) (below : List Frame) (meth : Method) (c : Code) (Q : State → Prop) (rho : Nat → Nat) (nr c0 s0 : Nat) (o : mj_R) (M' : mj_M) : Prop :=
  ∀ (v : Option Value) (pc' : Nat) (rho' : Nat → Nat) (H' : Heap) (locs' : List Loc) (ls' : Array Slot) (cells' slots' : Nat) (i : Instr), o = .inl v → mj_ag nr rho rho' → mj_r0 rho0 rho' → mj_In G rho' M' H' → va_S (mj_A G) s.heap H' locs' → mj_ret k v = true → decode X.2.1 pc' = .ok (i, 1) → ((v = none ∧ i = .return_) ∨ (∃ w, v = some (.int w) ∧ i = .ireturn) ∨ ∃ w, v = some (.long w) ∧ i = .lreturn) → cells' + c0 = M'.nc → slots' + s0 = M'.ns → W p l e R s m args below meth c H' locs' cells' slots' Q (F0 m pc' ls' (mj_sm rho' v.toList))
/-- .. that throws here -/
def mj_K2 (G : mj_G) (rho0 : Nat → Nat) (k : Nat) (X : mj_X) (p : Program) (l : Launch) (e : Env) (R : Room) (s : State) (m : MethodId) (args : Array Value) (below : List Frame) (meth : Method) (c : Code) (Q : State → Prop) (rho : Nat → Nat) (nr c0 s0 : Nat) (o : mj_R) (M' : mj_M) : Prop :=
  ∀ (q pc' j : Nat) (E : mj_E) (st' : List Value) (M2 : mj_M) (rho' : Nat → Nat) (H' : Heap) (locs' : List Loc) (ls' : Array Slot) (cells' slots' : Nat), o = .inr q → mj_at k pc' = some E → E.1 = .new j → E.2.2.1 = 100 + q → (mj_hd k).isEmpty = true → (st'.map fun v => v.category).sum < 9 → 5 < R.frames → 384 ≤ R.locals → mj_ag nr rho rho' → mj_r0 rho0 rho' → mj_In G rho' M2 H' → va_S (mj_A G) s.heap H' locs' → ls'.size = X.2.2.1 → M' = (M2.I, M2.L, M2.F, M2.nr, M2.nc + 1, M2.ns + 6) → cells' + c0 = M2.nc → slots' + s0 = M2.ns → W p l e R s m args below meth c H' locs' cells' slots' Q (F0 m pc' ls' (mj_sm rho' st'))
/-- .. that lets an exception through -/
def mj_K3 (G : mj_G) (rho0 : Nat → Nat) (k : Nat) (X : mj_X) (p : Program) (l : Launch) (e : Env) (R : Room) (s : State) (m : MethodId) (args : Array Value) (below : List Frame) (meth : Method) (c : Code) (Q : State → Prop) (rho : Nat → Nat) (nr c0 s0 : Nat) (o : mj_R) (M' : mj_M) : Prop :=
  ∀ (q pc' : Nat) (st' : List Value) (rho' : Nat → Nat) (H' : Heap) (locs' : List Loc) (ls' : Array Slot) (cells' slots' : Nat) (ce : Cell) (q9 : Addr), o = .inr q → (mj_hd k).isEmpty = true → mj_ag nr rho rho' → mj_r0 rho0 rho' → mj_In G rho' M' H' → va_S (mj_A G) s.heap H' locs' → H'[q9]? = some ce → ce.vm = .none → s.vm.findClass (mj_en q) = some ce.cls → cells' + c0 = M'.nc → slots' + s0 = M'.ns → vx_W p l e R s m args below meth c H' locs' cells' slots' Q (F0 m pc' ls' st') q9
theorem mj_K1.to {G : mj_G} {rho0 : Nat → Nat} {k : Nat} {X : mj_X} {p : Program} {l : Launch} {e : Env} {R : Room} {s : State} {m : MethodId} {args : Array Value} {below : List Frame} {meth : Method} {c : Code} {Q : State → Prop} {rho rho1 : Nat → Nat} {nr nr1 c0 s0 : Nat} {o : mj_R} {M' : mj_M} (h : mj_K1 G rho0 k X p l e R s m args below meth c Q rho nr c0 s0 o M') (ha : mj_ag nr rho rho1) (hn : nr ≤ nr1) : mj_K1 G rho0 k X p l e R s m args below meth c Q rho1 nr1 c0 s0 o M' :=
  fun v pc' rho' H' locs' ls' cells' slots' i h1 h2 => h v pc' rho' H' locs' ls' cells' slots' i h1 (ha.trans h2 hn)
theorem mj_K2.to {G : mj_G} {rho0 : Nat → Nat} {k : Nat} {X : mj_X} {p : Program} {l : Launch} {e : Env} {R : Room} {s : State} {m : MethodId} {args : Array Value} {below : List Frame} {meth : Method} {c : Code} {Q : State → Prop} {rho rho1 : Nat → Nat} {nr nr1 c0 s0 : Nat} {o : mj_R} {M' : mj_M} (h : mj_K2 G rho0 k X p l e R s m args below meth c Q rho nr c0 s0 o M') (ha : mj_ag nr rho rho1) (hn : nr ≤ nr1) : mj_K2 G rho0 k X p l e R s m args below meth c Q rho1 nr1 c0 s0 o M' :=
  fun q pc' j E st' M2 rho' H' locs' ls' cells' slots' h1 h2 h3 h4 h5 h6 h7 h8 h9 => h q pc' j E st' M2 rho' H' locs' ls' cells' slots' h1 h2 h3 h4 h5 h6 h7 h8 (ha.trans h9 hn)
theorem mj_K3.to {G : mj_G} {rho0 : Nat → Nat} {k : Nat} {X : mj_X} {p : Program} {l : Launch} {e : Env} {R : Room} {s : State} {m : MethodId} {args : Array Value} {below : List Frame} {meth : Method} {c : Code} {Q : State → Prop} {rho rho1 : Nat → Nat} {nr nr1 c0 s0 : Nat} {o : mj_R} {M' : mj_M} (h : mj_K3 G rho0 k X p l e R s m args below meth c Q rho nr c0 s0 o M') (ha : mj_ag nr rho rho1) (hn : nr ≤ nr1) : mj_K3 G rho0 k X p l e R s m args below meth c Q rho1 nr1 c0 s0 o M' :=
  fun q pc' st' rho' H' locs' ls' cells' slots' ce q9 h1 h2 h3 => h q pc' st' rho' H' locs' ls' cells' slots' ce q9 h1 h2 (ha.trans h3 hn)
/-- the theorem's sentence, for runs of n steps -/
def mj_Sd (Z : State → Heap → Prop) (G : mj_G) (rho0 : Nat → Nat) (n : Nat) : Prop :=
  ∀ (d k : Nat) (x : mj_C) (o : mj_R) (M' : mj_M) (X : mj_X) (p : Program) (l : Launch) (e : Env) (R : Room) (s : State) (m : MethodId) (args : Array Value) (below : List Frame) (meth : Method) (c : Code) (Q : State → Prop) (rho : Nat → Nat) (H : Heap) (locs : List Loc) (ls : Array Slot) (cells slots c0 s0 : Nat),
    mj_run n d k x = some (o, M') → mj_mt k = some X → l.stackTraces = false → mj_Cx X p s m args meth c → mj_En Z G s s.heap → mj_In G rho x.2.2.2 H → mj_r0 rho0 rho → va_S (mj_A G) s.heap H locs → lv_has ls X.2.2.1 (mj_lm rho x.2.1) → d ≤ R.frames → d * 64 ≤ R.locals → cells + c0 = x.2.2.2.nc → slots + s0 = x.2.2.2.ns → M'.nc ≤ R.cells + c0 → M'.ns ≤ R.slots + s0 →
    mj_K1 G rho0 k X p l e R s m args below meth c Q rho x.2.2.2.nr c0 s0 o M' → mj_K2 G rho0 k X p l e R s m args below meth c Q rho x.2.2.2.nr c0 s0 o M' → mj_K3 G rho0 k X p l e R s m args below meth c Q rho x.2.2.2.nr c0 s0 o M' →
    W p l e R s m args below meth c H locs cells slots Q (F0 m x.1 ls (mj_sm rho x.2.2.1))
/-- a call of the JDK's own -/
def mj_LibLaw (Z : State → Heap → Prop) (G : mj_G) (rho0 : Nat → Nat) : Prop :=
  ∀ (k : Nat) (x y : mj_C) (E : mj_E) (X : mj_X) (p : Program) (l : Launch) (e : Env) (R : Room) (s : State) (m : MethodId) (args : Array Value) (below : List Frame) (meth : Method) (c : Code) (Q : State → Prop) (rho : Nat → Nat) (H : Heap) (locs : List Loc) (ls : Array Slot) (cells slots : Nat),
    mj_mt k = some X → mj_at k x.1 = some E → ((∃ j, E.1 = .invokestatic j) ∨ (∃ j, E.1 = .invokespecial j) ∨ ∃ j, E.1 = .invokevirtual j) → 1000 ≤ E.2.2.1 → mj_lib E x = some y → (x.2.2.1.map fun v => v.category).sum < 9 → 5 < R.frames → 384 ≤ R.locals → cells ≤ R.cells → slots ≤ R.slots → mj_Cx X p s m args meth c → mj_En Z G s s.heap → mj_In G rho x.2.2.2 H → mj_r0 rho0 rho → va_S (mj_A G) s.heap H locs → lv_has ls X.2.2.1 (mj_lm rho x.2.1) →
    (∀ (H' : Heap) (locs' : List Loc), mj_In G rho x.2.2.2 H' → va_S (mj_A G) s.heap H' locs' → W p l e R s m args below meth c H' locs' cells slots Q (F0 m y.1 ls (mj_sm rho y.2.2.1))) → W p l e R s m args below meth c H locs cells slots Q (F0 m x.1 ls (mj_sm rho x.2.2.1))
/-- an exception is caught -/
def mj_CatchLaw (Z : State → Heap → Prop) (G : mj_G) : Prop :=
  ∀ (k pc q hp : Nat) (X : mj_X) (p : Program) (l : Launch) (e : Env) (R : Room) (s : State) (m : MethodId) (args : Array Value) (below : List Frame) (meth : Method) (c : Code) (Q : State → Prop) (H : Heap) (locs : List Loc) (ls : Array Slot) (cells slots : Nat) (rest : List Value) (ce : Cell) (q9 : Addr),
    mj_mt k = some X → mj_hdl pc q (mj_hd k) = some hp → mj_Cx X p s m args meth c → mj_En Z G s s.heap → va_S (mj_A G) s.heap H locs → H[q9]? = some ce → ce.vm = .none → s.vm.findClass (mj_en q) = some ce.cls → W p l e R s m args below meth c H locs cells slots Q (F0 m hp ls [.ref q9]) → vx_W p l e R s m args below meth c H locs cells slots Q (F0 m pc ls rest) q9
/-- an exception is thrown: new; dup; invokespecial; athrow -/
def mj_ThrowLaw (Z : State → Heap → Prop) (G : mj_G) : Prop :=
  ∀ (k pc j q : Nat) (E : mj_E) (X : mj_X) (p : Program) (l : Launch) (e : Env) (R : Room) (s : State) (m : MethodId) (args : Array Value) (below : List Frame) (meth : Method) (c : Code) (Qc : Array Value → State → Outcome → State → Prop) (XC : String → State → State → Prop) (H : Heap) (locs : List Loc) (ls : Array Slot) (cells slots mc ms : Nat) (rest : List Value),
    mj_mt k = some X → mj_at k pc = some E → E.1 = .new j → E.2.2.1 = 100 + q → (mj_hd k).isEmpty = true → l.stackTraces = false → mj_Cx X p s m args meth c → mj_En Z G s s.heap → va_S (mj_A G) s.heap H locs → ls.size = X.2.2.1 → (rest.map fun v => v.category).sum < 9 → 5 < R.frames → 384 ≤ R.locals → cells + 1 ≤ R.cells → slots + 6 ≤ R.slots → cells + 1 ≤ mc → slots + 6 ≤ ms →
    (∀ t : State, s.vm.Alike t.vm → H.size ≤ t.heap.size → (∀ q : Nat, q < H.size → t.heap[q]? = H[q]?) → XC (mj_en q) s t) → W p l e R s m args below meth c H locs cells slots (vx_MQ below Qc XC args s mc ms (mj_A G)) (F0 m pc ls rest)
theorem mj_hh_all : (List.range 204).all (fun k => match mj_mt k with | some X => (mj_hd k).isEmpty == X.2.2.2.2.2.isEmpty | none => false) = true := by decide +kernel
theorem mj_mt_lt {k : Nat} {X : mj_X} (h : mj_mt k = some X) : k < 204 := by
  rcases Nat.lt_or_ge k 204 with h1 | h1
  · exact h1
  · unfold mj_mt at h
    have h2 : 17 ≤ k / 12 := by omega
    have h3 : mj_mts[k / 12]? = none := List.getElem?_eq_none_iff.mpr (show mj_mts.length ≤ k / 12 from h2)
    rw [List.getD_eq_getElem?_getD, h3] at h
    simp at h
theorem mj_hh_eq {k : Nat} {X : mj_X} (h : mj_mt k = some X) : (mj_hd k).isEmpty = X.2.2.2.2.2.isEmpty := by
  have h1 := List.all_eq_true.mp mj_hh_all k (List.mem_range.mpr (mj_mt_lt h))
  rw [h] at h1
  exact eq_of_beq h1
theorem mj_hh_nil {k : Nat} {X : mj_X} (h : mj_mt k = some X) (he : (mj_hd k).isEmpty = true) : X.2.2.2.2.2 = [] := by
  rw [mj_hh_eq h] at he
  exact List.isEmpty_iff.mp he
/-- a return's last step -/
theorem mj_retW {k : Nat} {X : mj_X} {p : Program} {l : Launch} {e : Env} {R : Room} {s : State} {m : MethodId} {args : Array Value} {below : List Frame} {meth : Method} {c : Code} {G : mj_G} {rho0 rho rho' : Nat → Nat} {M M' : mj_M} {v : Option Value} {pc' : Nat} {H' : Heap} {locs' : List Loc} {ls' : Array Slot} {i : Instr} {mc ms : Nat} (hX : mj_mt k = some X) (hC : mj_Cx X p s m args meth c) (ag : mj_ag M.nr rho rho') (r0 : mj_r0 rho0 rho') (hI : mj_In G rho' M' H') (hS : va_S (mj_A G) s.heap H' locs') (hv : mj_ret k v = true) (hd : decode X.2.1 pc' = .ok (i, 1)) (hi : (v = none ∧ i = .return_) ∨ (∃ w, v = some (.int w) ∧ i = .ireturn) ∨ ∃ w, v = some (.long w) ∧ i = .lreturn) :
    W p l e R s m args below meth c H' locs' mc ms (MQ below (mj_Qr G rho0 rho M M' v) args s mc ms (mj_A G)) (F0 m pc' ls' (mj_sm rho' v.toList)) := by
  obtain ⟨hx, hb, hr, -, -, -, hlk, -, -⟩ := hC
  have hrt : mj_rty k = some X.2.2.2.1 := by unfold mj_rty; rw [hX]; rfl
  have hq : ∀ t : State, t.heap = H' → s.WarmedH t.vm → mj_Qr G rho0 rho M M' v args s (.returned (v.map (mj_vm rho'))) t := fun t ht _ => ⟨rho', rfl, ag, r0, by rw [ht]; exact hI, hS.F ht⟩
  unfold mj_ret at hv
  rw [hrt] at hv
  generalize X.2.2.2.1 = rt at hv hr
  rcases hi with ⟨rfl, rfl⟩ | ⟨x, rfl, rfl⟩ | ⟨x, rfl, rfl⟩
  · cases rt with
    | none => exact W.vret hx hb hr hq hS.2.2 hd hlk
    | some ty => cases ty <;> cases hv
  · cases rt with
    | none => cases hv
    | some ty =>
      cases ty <;> (try (cases hv; done))
      · exact W.iret hx hb hr hq hS.2.2 hd hlk
      · have hx01 : x = 0 ∨ x = 1 := of_decide_eq_true hv
        exact W.zret hx hb hr (by rcases hx01 with rfl | rfl <;> decide +kernel) hq hS.2.2 hd hlk
  · cases rt with
    | none => cases hv
    | some ty =>
      cases ty <;> (try (cases hv; done))
      exact W.lret hx hb hr hq hS.2.2 hd hlk
/-- a method's body from its entry -/
theorem mj_body {Z : State → Heap → Prop} {G : mj_G} {rho0 rho : Nat → Nat} {n d k : Nat} {aa : List Value} {M M' : mj_M} {o : mj_R} {X : mj_X} {p : Program} {l : Launch} {e : Env} {R : Room} {s : State} {m : MethodId} {args : Array Value} {below : List Frame} {meth : Method} {c : Code} {Q : State → Prop} (hS : mj_Sd Z G rho0 n) (hl : l.stackTraces = false) (hrun : mj_run n d k (0, lv_args 0 aa, [], M) = some (o, M')) (hX : mj_mt k = some X) (hlen : (lg_sl aa).length ≤ X.2.2.1) (r0 : mj_r0 rho0 rho) (hC : mj_Cx X p s m args meth c) (hP : mj_Pc Z G rho M aa args s) (hd : d ≤ R.frames) (hd2 : d * 64 ≤ R.locals) (hc : M'.nc ≤ R.cells + M.nc) (hs : M'.ns ≤ R.slots + M.ns)
    (k1 : mj_K1 G rho0 k X p l e R s m args below meth c Q rho M.nr M.nc M.ns o M') (k2 : mj_K2 G rho0 k X p l e R s m args below meth c Q rho M.nr M.nc M.ns o M') (k3 : mj_K3 G rho0 k X p l e R s m args below meth c Q rho M.nr M.nc M.ns o M') : W p l e R s m args below meth c s.heap [] 0 0 Q (entryFrame m args X.2.2.1) := by
  obtain ⟨rfl, hEn, hIn⟩ := hP
  have hlv := lv_entry (mj_sm rho aa) (n := X.2.2.1) (by rw [mj_sl_len]; exact hlen)
  rw [lg_entry_eq]
  generalize (lg_sl (mj_sm rho aa) ++ List.replicate (X.2.2.1 - (lg_sl (mj_sm rho aa)).length) Slot.unset).toArray = ls at hlv ⊢
  rw [mj_lm_args] at hlv
  exact hS d k (0, lv_args 0 aa, [], M) o M' X p l e R s m _ below meth c Q rho s.heap [] ls 0 0 M.nc M.ns hrun hX hl hC hEn hIn r0 va_S.rf hlv hd hd2 (Nat.zero_add _) (Nat.zero_add _) hc hs k1 k2 k3
/-- the context that a body gives -/
theorem mj_ctx {X : mj_X} {k : Nat} {p : Program} {l : Launch} {rm : Room} {e : Env} {s s₁ : State} {m : MethodId} {args : Array Value} {below : List Frame} {meth : Method} {c : Code} (hX : mj_mt k = some X) (B : BodyLoose p l X.1 (headSpec (mj_cd X :: mj_GT) rm) X.2.1 X.2.2.1 X.2.2.2.1 e s m args below meth c s₁) (hml : c.maxLocals = X.2.2.1) : mj_Cx X p s m args meth c := by
  have hts := atoms_spec (ws := mj_cd X :: mj_GT) B.pre
  have hq := mj_Qall k X hX
  refine ⟨B.exec, B.bytes, B.returns, hml, ?_, fun w hw => hts w (List.mem_cons_of_mem _ hw), B.notSynchronized, (name_of_methodNamed B.named B.method).1, ?_⟩
  · rw [← hq.2.1]; exact findClass_of_methodNamed B.named
  · have h1 := hts _ List.mem_cons_self
    unfold mj_cd at h1
    split at h1
    · rename_i hh
      have h2 := B.noHandlers h1
      rw [hh]
      simpa [tableOf] using h2
    · exact vx_table (x := X.1) B h1
theorem mj_met {Z : State → Heap → Prop} {G : mj_G} {rho0 rho : Nat → Nat} {n d k : Nat} {aa : List Value} {M M' : mj_M} {v : Option Value} {X : mj_X} {l : Launch} (hS : mj_Sd Z G rho0 n) (hl : l.stackTraces = false) (hrun : mj_run n d k (0, lv_args 0 aa, [], M) = some (.inl v, M')) (hX : mj_mt k = some X) (hlen : (lg_sl aa).length ≤ X.2.2.1) (r0 : mj_r0 rho0 rho) :
    Met l X.1 (mj_cd X :: mj_GT) (mj_rm d (M'.nc - M.nc) (M'.ns - M.ns)) (mj_Pc Z G rho M aa) (mj_Qr G rho0 rho M M' v) (M'.nc - M.nc) (M'.ns - M.ns) (mj_A G) := by
  have hq := mj_Qall k X hX
  have hle := mj_run_le _ _ _ _ _ _ hrun
  have body : ∀ p e s m args below meth c s₁, BodyLoose p l X.1 (headSpec (mj_cd X :: mj_GT) (mj_rm d (M'.nc - M.nc) (M'.ns - M.ns))) X.2.1 X.2.2.1 X.2.2.2.1 e s m args below meth c s₁ → c.maxLocals = X.2.2.1 → mj_Pc Z G rho M aa args s →
      W p l e (headSpec (mj_cd X :: mj_GT) (mj_rm d (M'.nc - M.nc) (M'.ns - M.ns))).room s m args below meth c s.heap [] 0 0 (MQ below (mj_Qr G rho0 rho M M' v) args s (M'.nc - M.nc) (M'.ns - M.ns) (mj_A G)) (entryFrame m args X.2.2.1) := by
    intro p e s m args below meth c s₁ B hml hP
    have hC := mj_ctx hX B hml
    refine mj_body hS hl hrun hX hlen r0 hC hP (Nat.le_refl _) (Nat.le_refl _) ?_ ?_ ?_ ?_ ?_
    · show M'.nc ≤ M'.nc - M.nc + M.nc
      omega
    · show M'.ns ≤ M'.ns - M.ns + M.ns
      omega
    · intro v' pc' rho' H' locs' ls' cells' slots' i h1 h2 h3 h4 h5 h6 h7 h8 h9 h10
      cases h1
      have e1 : cells' = M'.nc - M.nc := by omega
      have e2 : slots' = M'.ns - M.ns := by omega
      subst e1 e2
      exact mj_retW hX hC h2 h3 h4 h5 h6 h7 h8
    · intro q pc' j E st' M2 rho' H' locs' ls' cells' slots' h1
      cases h1
    · intro q pc' st' rho' H' locs' ls' cells' slots' ce q9 h1
      cases h1
  by_cases hh : X.2.2.2.2.2 = []
  · exact Met.ofW (cc := X.2.1) (maxL := X.2.2.1) (ret := X.2.2.2.1) hq.2.2.1 (by unfold mj_cd; rw [if_pos hh]) body
  · refine mj_met_of (vx_ofWH (cc := X.2.1) (maxL := X.2.2.1) (ret := X.2.2.2.1) (hh := X.2.2.2.2.2) hq.2.2.1 (by unfold mj_cd; rw [if_neg hh]) fun p e s m args below meth c s₁ B hml hP => ?_)
    exact vx_ret (body p e s m args below meth c s₁ B hml hP)
theorem mj_metX {Z : State → Heap → Prop} {G : mj_G} {rho0 rho : Nat → Nat} {n d k q : Nat} {aa : List Value} {M M' : mj_M} {X : mj_X} {l : Launch} (hT : mj_ThrowLaw Z G) (hS : mj_Sd Z G rho0 n) (hl : l.stackTraces = false) (hrun : mj_run n d k (0, lv_args 0 aa, [], M) = some (.inr q, M')) (hX : mj_mt k = some X) (hh : X.2.2.2.2.2 = []) (hlen : (lg_sl aa).length ≤ X.2.2.1) (r0 : mj_r0 rho0 rho) :
    vx_Met l X.1 (mj_cd X :: mj_GT) (mj_rm d (M'.nc - M.nc) (M'.ns - M.ns)) (mj_Pc Z G rho M aa) (fun _ _ _ _ => False) (mj_Xr G rho0 rho M M' q) (M'.nc - M.nc) (M'.ns - M.ns) (mj_A G) := by
  have hq := mj_Qall k X hX
  have hle := mj_run_le _ _ _ _ _ _ hrun
  refine vx_ofW (cc := X.2.1) (maxL := X.2.2.1) (ret := X.2.2.2.1) hq.2.2.1 (by unfold mj_cd; rw [if_pos hh]) fun p e s m args below meth c s₁ B hml hxt hP => ?_
  have hC := mj_ctx hX B hml
  have hEn : mj_En Z G s s.heap := hP.2.1
  refine mj_body hS hl hrun hX hlen r0 hC hP (Nat.le_refl _) (Nat.le_refl _) ?_ ?_ ?_ ?_ ?_
  · show M'.nc ≤ M'.nc - M.nc + M.nc
    have := hle.1
    omega
  · show M'.ns ≤ M'.ns - M.ns + M.ns
    have := hle.2.1
    omega
  · intro v' pc' rho' H' locs' ls' cells' slots' i h1
    cases h1
  · intro q' pc' j E st' M2 rho' H' locs' ls' cells' slots' h1 h2 h3 h4 h5 h6 h7 h8 h9 h10 h11 h12 h13 h14 h15 h16
    cases h1
    have e1 : M'.nc = M2.nc + 1 := by rw [h14]
    have e2 : M'.ns = M2.ns + 6 := by rw [h14]
    have f1 : cells' + 1 ≤ M'.nc - M.nc := by omega
    have f2 : slots' + 6 ≤ M'.ns - M.ns := by omega
    refine hT k pc' j q E X p l e _ s m args below meth c _ _ H' locs' ls' cells' slots' _ _ (mj_sm rho' st') hX h2 h3 h4 h5 hl hC hEn h12 h13 (by rw [mj_sm_cat]; exact h6) h7 h8 f1 f2 f1 f2 (fun t ht hz hk => ⟨rfl, rho', h9, h10, ?_, ⟨Nat.le_trans h12.1 hz, fun q hq hA => by rw [hk q (Nat.lt_of_lt_of_le hq h12.1)]; exact h12.2.1 q hq hA⟩⟩)
    obtain ⟨i1, i2, i3, i4, i5, i6, i7⟩ := h11
    rw [h14]
    have hws : mj_ws G.cA rho' (M2.I, M2.L, M2.F, M2.nr, M2.nc + 1, M2.ns + 6) = mj_ws G.cA rho' M2 := mj_ws_congr rfl rfl rfl rfl (fun _ _ => rfl) (fun _ _ _ _ => rfl)
    refine ⟨?_, by rw [hws]; exact i2, i3, i4, i5, i6, i7⟩
    rw [hws]
    exact i1.kept fun k x hx => hk x.1 ((i1 k x hx).lt)
  · intro q' pc' st' rho' H' locs' ls' cells' slots' ce q9 h1 h2 h3 h4 h5 h6 h7 h8 h9 h10 h11
    cases h1
    refine vx_out (fun z hz => (hxt z hz).elim) hC.2.2.2.2.2.2.1 h7 h8 h9 (fun t ht _ => ⟨rfl, rho', h3, h4, by rw [ht]; exact h5, h6.F ht⟩) h6.2.2 ?_ ?_
    · omega
    · omega
