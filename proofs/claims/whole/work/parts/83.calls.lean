/-! THE MINI MACHINE IS SOUND: contracts, and what is owed of the JDK's own -/
def mj_en (q : Nat) : String := match q with
  | 0 => "java/lang/IllegalArgumentException"
  | 1 => "java/lang/IllegalStateException"
  | _ => "java/lang/UnsupportedOperationException"
def mj_r0 (rho0 rho : Nat → Nat) : Prop := ∀ r, 2000 ≤ r → r ≠ 1000000 → rho r = rho0 r
def mj_isNest : Cond → Bool
  | .methodLinkNest .. => true
  | _ => false
def mj_Zok (Z : State → Heap → Prop) (G : mj_G) (rho0 : Nat → Nat) : Prop := (∀ (U U' : State) (H H' : Heap), Z U H → U.WarmedH U'.vm → (∀ q, q < G.b0 → H'[q]? = H[q]?) → Z U' H') ∧ (∀ (U : State) (H : Heap), Z U H → ∀ (j : Nat) (q : Nat × Nat × String), mj_str[j]? = some q → vk_R (mj_cn q.1) q.2.1 q.2.2 (rho0 (2000 + j)) U) ∧ ∀ (U : State) (H : Heap), Z U H → ∀ w ∈ tables_1, mj_isNest w = true → va_Nw w U
theorem mj_En.to {Z : State → Heap → Prop} {G : mj_G} {rho0 : Nat → Nat} (hZ : mj_Zok Z G rho0) {s U : State} {H : Heap} {locs : List Loc} (h : mj_En Z G s s.heap) (hS : va_S (mj_A G) s.heap H locs) (hW : s.WarmedH U.vm) : mj_En Z G U H := by
  obtain ⟨h1, h2, h3, h4, h5, h6⟩ := h
  have hk : ∀ q, q < G.b0 → H[q]? = s.heap[q]? := fun q hq => hS.2.1 q (Nat.lt_of_lt_of_le hq h2) (Nat.not_le.mpr hq)
  exact ⟨va_K.moved hW.alike h1, Nat.le_trans h2 hS.1, va_X.moved hW.alike (va_X.kept h3 (hk _ h4)), h4, h5, hZ.1 _ _ _ _ h6 hW hk⟩
def mj_Pc (Z : State → Heap → Prop) (G : mj_G) (rho : Nat → Nat) (M : mj_M) (aa : List Value) : Array Value → State → Prop := va_Pc (mj_sm rho aa) (fun U => mj_En Z G U U.heap ∧ mj_In G rho M U.heap)
def mj_Qr (G : mj_G) (rho0 rho : Nat → Nat) (M M' : mj_M) (v : Option Value) : Array Value → State → Outcome → State → Prop := fun _ st oc t => ∃ rho' : Nat → Nat, oc = .returned (v.map (mj_vm rho')) ∧ mj_ag M.nr rho rho' ∧ mj_r0 rho0 rho' ∧ mj_In G rho' M' t.heap ∧ va_F (mj_A G) st t
def mj_Xr (G : mj_G) (rho0 rho : Nat → Nat) (M M' : mj_M) (q : Nat) : String → State → State → Prop := fun E st t => E = mj_en q ∧ ∃ rho' : Nat → Nat, mj_ag M.nr rho rho' ∧ mj_r0 rho0 rho' ∧ mj_In G rho' M' t.heap ∧ va_F (mj_A G) st t
theorem mj_Pc_blind {Z : State → Heap → Prop} {G : mj_G} {rho0 : Nat → Nat} (hZ : mj_Zok Z G rho0) {rho : Nat → Nat} {M : mj_M} {aa : List Value} : FrameBlind (mj_Pc Z G rho M aa) := by
  rintro a U g mk ⟨h1, ⟨k1, k2, k3, k4, k5, k6⟩, h3⟩
  exact ⟨h1, ⟨va_K.moved (u := U) (U := U.calling g mk a) (Vm.Alike.refl U.vm) k1, k2, va_X.moved (u := U) (U := U.calling g mk a) (Vm.Alike.refl U.vm) k3, k4, k5, hZ.1 U (U.calling g mk a) _ _ k6 (State.WarmedH.refl U) (fun _ _ => rfl)⟩, h3⟩
def mj_rm (d mc ms : Nat) : Room := { frames := d, cells := mc, slots := ms, locals := d * 64 }
def mj_cd (X : mj_X) : Cond := if X.2.2.2.2.2 = [] then .code X.1 X.2.1 X.2.2.1 X.2.2.2.1 else .codeWith X.1 X.2.1 X.2.2.1 X.2.2.2.1 X.2.2.2.2.2
theorem mj_lm_args (rho : Nat → Nat) : ∀ (vs : List Value) (i : Nat), lv_args i (mj_sm rho vs) = mj_lm rho (lv_args i vs) := by
  intro vs
  induction vs with
  | nil => intro i; rfl
  | cons v vs ih =>
    intro i
    show (i, mj_vm rho v) :: lv_args (if (mj_vm rho v).category = 2 then i + 2 else i + 1) (mj_sm rho vs) = (i, mj_vm rho v) :: mj_lm rho (lv_args (if v.category = 2 then i + 2 else i + 1) vs)
    rw [mj_vm_cat, ih]
theorem mj_sl_len (rho : Nat → Nat) (vs : List Value) : (lg_sl (mj_sm rho vs)).length = (lg_sl vs).length := by
  unfold lg_sl mj_sm
  induction vs with
  | nil => rfl
  | cons v vs ih =>
    simp only [List.map_cons, List.flatMap_cons, List.length_append, mj_vm_cat]
    rw [ih]
    congr 1
    split <;> rfl
theorem mj_sm_cat (rho : Nat → Nat) (vs : List Value) : ((mj_sm rho vs).map fun v => v.category).sum = (vs.map fun v => v.category).sum := by
  unfold mj_sm
  rw [List.map_map]
  congr 1
  exact List.map_congr_left fun v _ => mj_vm_cat rho v
theorem mj_args_eq {N : Nat} {st : List Value} (h : (mj_args N st).1.length = N) : st = (mj_args N st).1.reverse ++ (mj_args N st).2 := by
  unfold mj_args
  simp
theorem mj_sm_app (rho : Nat → Nat) (a b : List Value) : mj_sm rho (a ++ b) = mj_sm rho a ++ mj_sm rho b := by simp [mj_sm]
theorem mj_sm_rev (rho : Nat → Nat) (a : List Value) : mj_sm rho a.reverse = (mj_sm rho a).reverse := by simp [mj_sm]
theorem mj_ag.trans {n n' : Nat} {a b c : Nat → Nat} (h : mj_ag n a b) (k : mj_ag n' b c) (hn : n ≤ n') : mj_ag n a c := fun r h0 hr => (k r h0 (by omega)).trans (h r h0 hr)
/-- refs of a caller stay where they were -/
theorem mj_ag_lm {n : Nat} {rho rho' : Nat → Nat} (hn : n ≤ 1000) (h : mj_ag n rho rho') {lv : mj_L} {st : List Value} (hf : mj_fresh n lv st = true) : mj_lm rho' lv = mj_lm rho lv ∧ mj_sm rho' st = mj_sm rho st := by
  simp only [mj_fresh, Bool.and_eq_true, List.all_eq_true] at hf
  have hv : ∀ v, mj_fr n v = true → mj_vm rho' v = mj_vm rho v := by
    intro v hv
    cases v <;> try rfl
    rename_i r
    simp only [mj_fr, Bool.or_eq_true, Bool.and_eq_true, Nat.blt_eq, Nat.ble_eq] at hv
    simp only [mj_vm]
    have h9 : r < n ∨ 2000 ≤ r := hv.imp id (fun z => z.1)
    by_cases hj : r = 1000000
    · subst hj
      rcases hv with hv | hv
      · exact absurd hv (by omega)
      · exact absurd hv.2 (Nat.lt_irrefl _)
    · rw [h r hj h9]
  exact ⟨List.map_congr_left fun z hz => by rw [hv _ (hf.1 z hz)], List.map_congr_left fun z hz => hv _ (hf.2 z hz)⟩
section MJC
variable {p : Program} {l : Launch} {e : Env} {R : Room} {s : State} {m : MethodId} {args : Array Value} {below : List Frame} {meth : Method} {c : Code} {H : Heap} {locs : List Loc} {cells slots : Nat} {Q : State → Prop}
variable {Z : State → Heap → Prop} {G : mj_G} {rho0 rho : Nat → Nat} {ls : Array Slot} {pc mc ms : Nat} {rest st0 : List Value} {a : Array Value} {M M1 : mj_M}
/-- behind a call that returned -/
theorem mj_back {v : Option Value} (hr : va_Run p l e R s m args below meth c H locs cells slots mc ms (F0 m pc ls st0) rest (mj_Qr G rho0 rho M M1 v a) (mj_A G)) (hS : va_S (mj_A G) s.heap H locs)
    (kk : ∀ (rho' : Nat → Nat) (H1 : Heap) (locs1 : List Loc), mj_ag M.nr rho rho' → mj_r0 rho0 rho' → mj_In G rho' M1 H1 → va_S (mj_A G) s.heap H1 locs1 → W p l e R s m args below meth c H1 locs1 (cells + mc) (slots + ms) Q (F0 m (pc + 3) ls ((v.map (mj_vm rho')).toList ++ rest))) : W p l e R s m args below meth c H locs cells slots Q (F0 m pc ls st0) := by
  intro T hT X
  obtain ⟨v', st₀, t, T', L, h0, X', hL, e1, e2, ⟨rho', hv, ag, r0, hIn, hz, hk⟩, st⟩ := hr T hT X
  cases hv
  rw [h0] at hz hk
  obtain ⟨t2, a1, b1⟩ := kk rho' T'.heap (locs ++ L) ag r0 (by rw [e1]; exact hIn)
    ⟨Nat.le_trans hS.1 (by rw [e1]; exact hz), fun q h1 h2 => by rw [e1, hk q (Nat.lt_of_lt_of_le h1 hS.1) h2]; exact hS.2.1 q h1 h2, fun q hq => by
      rcases List.mem_append.mp hq with h | h
      · exact hS.2.2 q h
      · exact hL q h⟩ T' rfl X'
  exact ⟨t2, st t2 a1, b1⟩
/-- behind a call that threw -/
theorem mj_threw {q : Nat} (hr : vx_Run p l e R s m args below meth c H locs cells slots mc ms (F0 m pc ls st0) rest (fun _ _ _ => False) (mj_Xr G rho0 rho M M1 q) (mj_A G)) (hS : va_S (mj_A G) s.heap H locs)
    (kk : ∀ (rho' : Nat → Nat) (H1 : Heap) (locs1 : List Loc) (ce : Cell) (q9 : Addr), mj_ag M.nr rho rho' → mj_r0 rho0 rho' → mj_In G rho' M1 H1 → va_S (mj_A G) s.heap H1 locs1 → H1[q9]? = some ce → ce.vm = .none → s.vm.findClass (mj_en q) = some ce.cls → vx_W p l e R s m args below meth c H1 locs1 (cells + mc) (slots + ms) Q (F0 m pc ls rest) q9) : W p l e R s m args below meth c H locs cells slots Q (F0 m pc ls st0) := by
  intro T hT X
  rcases hr T hT X with ⟨v', st₀, t, T', L, h0, X', hL, e1, e2, hf, st⟩ | ⟨q9, st₀, t, T', L, E, ce, h0, X', hL, e1, e2, ⟨rfl, rho', ag, r0, hIn, hz, hk⟩, hcell, hv, hcl, st⟩
  · exact hf.elim
  · rw [h0] at hz hk
    obtain ⟨t2, a1, b1⟩ := kk rho' T'.heap (locs ++ L) ce q9 ag r0 (by rw [e1]; exact hIn)
      ⟨Nat.le_trans hS.1 (by rw [e1]; exact hz), fun q h1 h2 => by rw [e1, hk q (Nat.lt_of_lt_of_le h1 hS.1) h2]; exact hS.2.1 q h1 h2, fun q hq => by
        rcases List.mem_append.mp hq with h | h
        · exact hS.2.2 q h
        · exact hL q h⟩ (by rw [e1]; exact hcell) hv hcl T' rfl X'
    exact ⟨t2, st.trans a1, b1⟩
end MJC
theorem mj_met_of {l : Launch} {y : MethodName} {ws : List Cond} {rm : Room} {Pc : Array Value → State → Prop} {Qc : Array Value → State → Outcome → State → Prop} {mc ms : Nat} {free : Addr → Prop} (h : vx_Met l y ws rm Pc Qc (fun _ _ _ => False) mc ms free) : Met l y ws rm Pc Qc mc ms free := by
  intro p e h1 h2 h3 s m args below h4 h5 h6 h7
  obtain ⟨n, o, g1, g2, g3, g4⟩ := h p e h1 h2 h3 s m args below h4 h5 h6 h7
  rcases g4 with g4 | ⟨q, -, E, ce, L, hf, -⟩
  · exact ⟨n, o, g1, g2, g3, g4⟩
  · exact hf.elim
