/-- links to the JDK: (own class, pool number, which) -/
def mj_lk : List (Nat × Nat × Nat) := [(0, 3, 1000), (1, 1, 1000), (2, 3, 1000), (3, 3, 1000), (4, 3, 1000), (5, 3, 1000), (6, 1, 1000), (7, 1, 1000), (7, 23, 1003), (7, 32, 1004), (8, 5, 1000), (8, 63, 1002), (9, 3, 1000), (10, 1, 1000), (10, 7, 1001), (11, 1, 1000)]
def mj_ln (a : Nat) : MethodName := match a with
  | 1000 => Lib.objectInit
  | 1001 => Lib.Math.max.name
  | 1002 => Lib.MathLoose.min_long.x
  | 1003 => ⟨"java/lang/String", "length", "()I"⟩
  | _ => ⟨"java/lang/String", "charAt", "(I)C"⟩
set_option maxRecDepth 20000 in
theorem mj_lk0 : Cond.methodLink (mj_cn 0) 3 (mj_ln 1000) ∈ mj_GT := mj_t1 (i := 198) rfl rfl
set_option maxRecDepth 20000 in
theorem mj_lk1 : Cond.methodLink (mj_cn 1) 1 (mj_ln 1000) ∈ mj_GT := mj_t1 (i := 91) rfl rfl
set_option maxRecDepth 20000 in
theorem mj_lk2 : Cond.methodLink (mj_cn 2) 3 (mj_ln 1000) ∈ mj_GT := mj_t1 (i := 211) rfl rfl
set_option maxRecDepth 20000 in
theorem mj_lk3 : Cond.methodLink (mj_cn 3) 3 (mj_ln 1000) ∈ mj_GT := mj_t1 (i := 68) rfl rfl
set_option maxRecDepth 20000 in
theorem mj_lk4 : Cond.methodLink (mj_cn 4) 3 (mj_ln 1000) ∈ mj_GT := mj_t1 (i := 54) rfl rfl
set_option maxRecDepth 20000 in
theorem mj_lk5 : Cond.methodLink (mj_cn 5) 3 (mj_ln 1000) ∈ mj_GT := mj_t1 (i := 163) rfl rfl
set_option maxRecDepth 20000 in
theorem mj_lk6 : Cond.methodLink (mj_cn 6) 1 (mj_ln 1000) ∈ mj_GT := mj_t1 (i := 141) rfl rfl
set_option maxRecDepth 20000 in
theorem mj_lk7 : Cond.methodLink (mj_cn 7) 1 (mj_ln 1000) ∈ mj_GT := mj_t1 (i := 40) rfl rfl
set_option maxRecDepth 20000 in
theorem mj_lk8 : Cond.methodLink (mj_cn 7) 23 (mj_ln 1003) ∈ mj_GT := mj_t3 (i := 2) rfl rfl
set_option maxRecDepth 20000 in
theorem mj_lk9 : Cond.methodLink (mj_cn 7) 32 (mj_ln 1004) ∈ mj_GT := mj_t3 (i := 13) rfl rfl
set_option maxRecDepth 20000 in
theorem mj_lk10 : Cond.methodLink (mj_cn 8) 5 (mj_ln 1000) ∈ mj_GT := mj_t1 (i := 169) rfl rfl
set_option maxRecDepth 20000 in
theorem mj_lk11 : Cond.methodLink (mj_cn 8) 63 (mj_ln 1002) ∈ mj_GT := mj_t3 (i := 73) rfl rfl
set_option maxRecDepth 20000 in
theorem mj_lk12 : Cond.methodLink (mj_cn 9) 3 (mj_ln 1000) ∈ mj_GT := mj_t1 (i := 97) rfl rfl
set_option maxRecDepth 20000 in
theorem mj_lk13 : Cond.methodLink (mj_cn 10) 1 (mj_ln 1000) ∈ mj_GT := mj_t1 (i := 29) rfl rfl
set_option maxRecDepth 20000 in
theorem mj_lk14 : Cond.methodLink (mj_cn 10) 7 (mj_ln 1001) ∈ mj_GT := mj_t1 (i := 32) rfl rfl
set_option maxRecDepth 20000 in
theorem mj_lk15 : Cond.methodLink (mj_cn 11) 1 (mj_ln 1000) ∈ mj_GT := mj_t4 (i := 219) rfl rfl
theorem mj_lk_all : ∀ q ∈ mj_lk, Cond.methodLink (mj_cn q.1) q.2.1 (mj_ln q.2.2) ∈ mj_GT := List.forall_mem_cons.mpr ⟨mj_lk0, List.forall_mem_cons.mpr ⟨mj_lk1, List.forall_mem_cons.mpr ⟨mj_lk2, List.forall_mem_cons.mpr ⟨mj_lk3, List.forall_mem_cons.mpr ⟨mj_lk4, List.forall_mem_cons.mpr ⟨mj_lk5, List.forall_mem_cons.mpr ⟨mj_lk6, List.forall_mem_cons.mpr ⟨mj_lk7, List.forall_mem_cons.mpr ⟨mj_lk8, List.forall_mem_cons.mpr ⟨mj_lk9, List.forall_mem_cons.mpr ⟨mj_lk10, List.forall_mem_cons.mpr ⟨mj_lk11, List.forall_mem_cons.mpr ⟨mj_lk12, List.forall_mem_cons.mpr ⟨mj_lk13, List.forall_mem_cons.mpr ⟨mj_lk14, List.forall_mem_cons.mpr ⟨mj_lk15, fun _ h => absurd h List.not_mem_nil⟩⟩⟩⟩⟩⟩⟩⟩⟩⟩⟩⟩⟩⟩⟩⟩
def mj_lkin (oi i a : Nat) : Bool := mj_lk.any (fun q => Nat.beq q.1 oi && (Nat.beq q.2.1 i && Nat.beq q.2.2 a))
theorem mj_lk_use {oi i a : Nat} (h : mj_lkin oi i a = true) : Cond.methodLink (mj_cn oi) i (mj_ln a) ∈ mj_GT := by
  obtain ⟨q, hq, h1⟩ := List.any_eq_true.mp h
  simp only [Bool.and_eq_true] at h1
  have e1 := Nat.eq_of_beq_eq_true h1.1
  have e2 := Nat.eq_of_beq_eq_true h1.2.1
  have e3 := Nat.eq_of_beq_eq_true h1.2.2
  subst e1 e2 e3
  exact mj_lk_all q hq
def mj_lko (oi : Nat) (e : mj_E) : Bool := match e.1 with
  | .invokestatic i => Nat.blt e.2.2.1 1000 || (mj_lkin oi i e.2.2.1 && (Nat.beq e.2.2.1 1001 || Nat.beq e.2.2.1 1002))
  | .invokespecial i => Nat.blt e.2.2.1 1000 || (Nat.beq e.2.2.1 1005 || (mj_lkin oi i e.2.2.1 && Nat.beq e.2.2.1 1000))
  | .invokevirtual i => Nat.blt e.2.2.1 1000 || (mj_lkin oi i e.2.2.1 && (Nat.beq e.2.2.1 1003 || Nat.beq e.2.2.1 1004))
  | _ => true
set_option maxRecDepth 100000 in
theorem mj_lko_all : (List.range 204).all (fun k => (mj_code k).all (fun c => c.all (fun q => mj_lko (((mj_mt k).map fun q => q.2.2.2.2.1).getD 99) q.2))) = true := by decide +kernel
theorem mj_lko_at {k pc : Nat} {e : mj_E} {X : mj_X} (hX : mj_mt k = some X) (h : mj_at k pc = some e) : mj_lko X.2.2.2.2.1 e = true := by
  have hc := List.all_eq_true.mp mj_lko_all k (List.mem_range.mpr (mj_mt_lt hX))
  rw [hX] at hc
  unfold mj_at at h
  cases hf : ((mj_code k).getD (pc / 64) []).find? (fun q => Nat.beq q.1 pc) with
  | none => rw [hf] at h; cases h
  | some q =>
    rw [hf] at h
    cases h
    have h2 := List.mem_of_find?_eq_some hf
    rw [List.getD_eq_getElem?_getD] at h2
    cases hg : (mj_code k)[pc / 64]? with
    | none => rw [hg] at h2; cases h2
    | some ch =>
      rw [hg] at h2
      have h4 := List.all_eq_true.mp hc ch (List.mem_of_getElem? hg)
      exact List.all_eq_true.mp h4 q h2
set_option maxRecDepth 20000 in
theorem mj_ob1 : Cond.instanceMethod Lib.objectInit ∈ mj_GT := mj_t1 (i := 30) rfl rfl
set_option maxRecDepth 20000 in
theorem mj_ob2 : Cond.code Lib.objectInit ⟨#[0xb1]⟩ 1 none ∈ mj_GT := mj_t1 (i := 31) rfl rfl
set_option maxRecDepth 20000 in
theorem mj_mx1 : Cond.static Lib.Math.max.name ∈ mj_GT := mj_t1 (i := 33) rfl rfl
set_option maxRecDepth 20000 in
theorem mj_mx2 : Cond.code Lib.Math.max.name Lib.Math.max.code 2 (some .int) ∈ mj_GT := mj_t1 (i := 34) rfl rfl
set_option maxRecDepth 20000 in
theorem mj_mi1 : Cond.static Lib.MathLoose.min_long.x ∈ mj_GT := mj_t3 (i := 74) rfl rfl
set_option maxRecDepth 20000 in
theorem mj_mi2 : Cond.code Lib.MathLoose.min_long.x Lib.MathLoose.min_long.code 4 (some .long) ∈ mj_GT := mj_t3 (i := 75) rfl rfl
set_option maxRecDepth 20000 in
theorem mj_mth : Cond.initialized "java/lang/Math" ∈ mj_GT := mj_t1 (i := 2) rfl rfl
/-- String.length, String.charAt on a constant: owed -/
def mj_StrLaw (Z : State → Heap → Prop) (G : mj_G) (rho0 : Nat → Nat) : Prop :=
  ∀ (k i : Nat) (x y : mj_C) (E : mj_E) (X : mj_X) (p : Program) (l : Launch) (e : Env) (R : Room) (s : State) (m : MethodId) (args : Array Value) (below : List Frame) (meth : Method) (c : Code) (Q : State → Prop) (rho : Nat → Nat) (H : Heap) (locs : List Loc) (ls : Array Slot) (cells slots : Nat),
    mj_mt k = some X → decode X.2.1 x.1 = .ok (.invokevirtual i, 3) → Cond.methodLink (mj_cn X.2.2.2.2.1) i (mj_ln E.2.2.1) ∈ mj_GT → E.2.2.1 = 1003 ∨ E.2.2.1 = 1004 → mj_lib E x = some y → (x.2.2.1.map fun v => v.category).sum < 9 → 5 < R.frames → 384 ≤ R.locals → cells ≤ R.cells → slots ≤ R.slots → mj_Cx X p s m args meth c → mj_En Z G s s.heap → mj_In G rho x.2.2.2 H → mj_r0 rho0 rho → va_S (mj_A G) s.heap H locs → lv_has ls X.2.2.1 (mj_lm rho x.2.1) →
    (∀ (H' : Heap) (locs' : List Loc), mj_In G rho x.2.2.2 H' → va_S (mj_A G) s.heap H' locs' → W p l e R s m args below meth c H' locs' cells slots Q (F0 m y.1 ls (mj_sm rho y.2.2.1))) → W p l e R s m args below meth c H locs cells slots Q (F0 m x.1 ls (mj_sm rho x.2.2.1))
theorem mj_dec_lib {k pc : Nat} {X : mj_X} {E : mj_E} (hX : mj_mt k = some X) (ha : mj_at k pc = some E) (hj : (∃ j, E.1 = .invokestatic j) ∨ (∃ j, E.1 = .invokespecial j) ∨ ∃ j, E.1 = .invokevirtual j) : decode X.2.1 pc = .ok (E.1, 3) := by
  obtain ⟨h1, h2⟩ := mj_dec hX ha
  obtain ⟨i, len, r⟩ := E
  rcases hj with ⟨j, e1⟩ | ⟨j, e1⟩ | ⟨j, e1⟩
  all_goals
    simp only at e1
    subst e1
    simp only [mj_ok2, Bool.and_eq_true] at h2
    rw [Nat.eq_of_beq_eq_true h2.1] at h1
    exact h1
theorem mj_lib_law {Z : State → Heap → Prop} {G : mj_G} {rho0 : Nat → Nat} (hstr : mj_StrLaw Z G rho0) : mj_LibLaw Z G rho0 := by
  intro k x y E X p l e R s m args below meth c Q rho H locs ls cells slots hX ha hj h10 hy hsm h5 h384 hcc hss hC hE hI r0 hS hlv kk
  have hdec := mj_dec_lib hX ha hj
  have hlo := mj_lko_at hX ha
  have hC' := hC
  obtain ⟨hx, hb, hr, hml, hown, hts, hlk, hnm, hxt⟩ := hC
  obtain ⟨pc, lv, st, M⟩ := x
  obtain ⟨i, len, a, b, v, tl⟩ := E
  have h10 : 1000 ≤ a := h10
  have hnb : Nat.blt a 1000 = false := by
    cases hq : Nat.blt a 1000 with
    | false => rfl
    | true => rw [Nat.blt_eq] at hq; omega
  rcases hj with ⟨j, e1⟩ | ⟨j, e1⟩ | ⟨j, e1⟩
  · simp only at e1
    subst e1
    simp only [mj_lko, hnb, Bool.false_or, Bool.and_eq_true, Bool.or_eq_true] at hlo
    have hlink := hts _ (mj_lk_use hlo.1)
    rcases hlo.2 with h7 | h7
    · have h8 := Nat.eq_of_beq_eq_true h7
      subst h8
      rcases st with _ | ⟨x1, _ | ⟨x2, st⟩⟩
      · cases hy
      · cases x1 <;> cases hy
      · cases x1 <;> (try (cases hy; done)) <;> cases x2 <;> (try (cases hy; done))
        cases hy
        refine va_mmax hx hb (hml.trans hlv.1.symm) hown hlink (hts _ mj_mx1) (hts _ mj_mth) (hts _ mj_mx2) (by omega) ?_ hcc hss hdec (kk H locs hI hS)
        show ((mj_sm rho st).map fun v => v.category).sum + 13 ≤ R.locals
        rw [mj_sm_cat]
        have h9 : 1 + (1 + (st.map fun v => v.category).sum) < 9 := hsm
        omega
    · have h8 := Nat.eq_of_beq_eq_true h7
      subst h8
      rcases st with _ | ⟨x1, _ | ⟨x2, st⟩⟩
      · cases hy
      · cases x1 <;> cases hy
      · cases x1 <;> (try (cases hy; done)) <;> cases x2 <;> (try (cases hy; done))
        cases hy
        refine va_mmin_long hx hb (hml.trans hlv.1.symm) hown hlink (hts _ mj_mi1) (hts _ mj_mth) (hts _ mj_mi2) (by omega) ?_ hcc hss hdec (kk H locs hI hS)
        show ((mj_sm rho st).map fun v => v.category).sum + 15 ≤ R.locals
        rw [mj_sm_cat]
        have h9 : 2 + (2 + (st.map fun v => v.category).sum) < 9 := hsm
        omega
  · simp only at e1
    subst e1
    simp only [mj_lko, hnb, Bool.false_or, Bool.and_eq_true, Bool.or_eq_true] at hlo
    rcases hlo with h7 | ⟨h6, h7⟩
    · have h8 := Nat.eq_of_beq_eq_true h7
      subst h8
      cases hy
    · have hlink := hts _ (mj_lk_use h6)
      have h8 := Nat.eq_of_beq_eq_true h7
      subst h8
      rcases st with _ | ⟨x1, st⟩
      · cases hy
      · cases x1 <;> (try (cases hy; done))
        cases hy
        rename_i r
        have h9 : 1 + (st.map fun v => v.category).sum < 9 := hsm
        exact W.objInit (g := F0 m pc ls (mj_sm rho (.ref r :: st))) hx hb hown hlink (hts _ mj_ob1) (hts _ mj_ob2) rfl (hlv.1.trans hml.symm) rfl hdec (by omega) (by
          show 2 * 0 + ((mj_sm rho st).map fun v => v.category).sum + 12 ≤ R.locals
          rw [mj_sm_cat]
          omega) (kk H locs hI hS)
  · simp only at e1
    subst e1
    have hlo2 := hlo
    simp only [mj_lko, hnb, Bool.false_or, Bool.and_eq_true, Bool.or_eq_true] at hlo2
    exact hstr k j (pc, lv, st, M) y (.invokevirtual j, len, a, b, v, tl) X p l e R s m args below meth c Q rho H locs ls cells slots hX hdec (mj_lk_use hlo2.1) (hlo2.2.imp Nat.eq_of_beq_eq_true Nat.eq_of_beq_eq_true) hy hsm h5 h384 hcc hss hC' hE hI r0 hS hlv kk
