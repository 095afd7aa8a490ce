/-! THE MINI MACHINE IS SOUND: the induction -/
theorem mj_mk_use {oi i a b : Nat} (h : mj_mkin oi i a b = true) : ∃ X : mj_X, mj_mt a = some X ∧ mj_plain X.1 b = true ∧ (Cond.methodLink (mj_cn oi) i X.1 ∈ mj_GT ∨ ((mj_mw a).1 = 0 ∧ X.2.2.2.2.2 = [] ∧ Cond.methodLinkNest (mj_cn oi) i X.1 "PacketSieve" ∈ tables_1)) := by
  obtain ⟨q, hq, h1⟩ := List.any_eq_true.mp h
  simp only [Bool.and_eq_true] at h1
  obtain ⟨h2, h3, h4, h5⟩ := h1
  have h6 := List.all_eq_true.mp mj_mk_all q hq
  have e2 := Nat.eq_of_beq_eq_true h2
  have e3 := Nat.eq_of_beq_eq_true h3
  have e4 := Nat.eq_of_beq_eq_true h4
  have e5 := Nat.eq_of_beq_eq_true h5
  subst e2 e3 e4 e5
  unfold mj_mkok at h6
  cases hf : mj_mt q.2.2.1 with
  | none => simp [hf] at h6
  | some X =>
    simp only [hf, Bool.and_eq_true, Bool.or_eq_true, decide_eq_true_eq] at h6
    refine ⟨X, rfl, h6.2, ?_⟩
    rcases h6.1 with h7 | ⟨h7, h8, h9⟩
    · exact Or.inl (mj_gt h7 rfl)
    · exact Or.inr ⟨Nat.eq_of_beq_eq_true h7, List.isEmpty_iff.mp h8, List.mem_of_getElem? h9⟩
theorem mj_plain_use {y : MethodName} {n : Nat} (h : mj_plain y n = true) : y.cls ≠ "java/lang/invoke/MethodHandle" ∧ y.cls ≠ "java/lang/invoke/VarHandle" ∧ (parseMethodDescriptor y.desc).map (fun d => d.parameters.length) = some n := by
  simp only [mj_plain, Bool.and_eq_true, decide_eq_true_eq] at h
  exact ⟨h.2.1, h.2.2.1, h.2.2.2⟩
theorem mj_str_lt {j : Nat} {q : Nat × Nat × String} (h : mj_str[j]? = some q) : j < 13 := (List.getElem?_eq_some_iff.mp h).1
theorem mj_dec {k pc : Nat} {X : mj_X} {E : mj_E} (hX : mj_mt k = some X) (ha : mj_at k pc = some E) : decode X.2.1 pc = .ok (E.1, E.2.1) ∧ mj_ok2 X pc E = true := by
  have hok := mj_ok_at hX ha
  rw [mj_ok, Bool.and_eq_true] at hok
  exact ⟨of_decide_eq_true hok.1, hok.2⟩
theorem mj_good {args : Array Value} {s : State} (hts : ∀ w ∈ mj_GT, w.before args s = true) {X : mj_X} (hcd : mj_cd X ∈ mj_GT) : ∀ w ∈ mj_cd X :: mj_GT, ∀ (a' : Array Value) (U : State), s.WarmedH U.vm → w.before a' U = true := by
  intro w hw a' U hW
  have hm : w ∈ mj_GT := (List.mem_cons.mp hw).elim (fun h => h ▸ hcd) id
  exact word_at hW (good_of_word (List.mem_filter.mp hm).2) (hts w hm)
def mj_emp : Cond → Bool
  | .codeWith _ _ _ _ [] => true
  | _ => false
theorem mj_emp_all : lw_tbl.all (fun w => !mj_emp w) = true := by decide +kernel
theorem mj_no_empty {y : MethodName} {b : ByteArray} {n : Nat} {r : Option FieldType} : ¬ Cond.codeWith y b n r [] ∈ mj_GT := by
  intro h
  have h1 := List.all_eq_true.mp mj_emp_all _ (List.mem_filter.mp h).1
  exact absurd h1 (by simp [mj_emp])
theorem mj_cd_in {k : Nat} {X : mj_X} (hX : mj_mt k = some X) (h9 : (mj_mw k).1 ≠ 9) : mj_cd X ∈ mj_GT ∧ Cond.initialized X.1.cls ∈ mj_GT := by
  obtain ⟨-, -, -, h | ⟨h1, h2⟩⟩ := mj_Qall k X hX
  · exact absurd h h9
  · refine ⟨?_, h1⟩
    unfold mj_cd
    rcases h2 with ⟨-, -, ⟨hh, hc⟩ | hc⟩ | ⟨-, hh, hc, -, -⟩ | ⟨-, hh, -, -, hc, -⟩
    · rw [if_pos hh]; exact hc
    · by_cases hh : X.2.2.2.2.2 = []
      · rw [if_pos hh]
        rw [hh] at hc
        exact absurd hc mj_no_empty
      · rw [if_neg hh]; exact hc
    · rw [if_pos hh]; exact hc
    · rw [if_pos hh]; exact hc
section MJM
variable {p : Program} {l : Launch} {e : Env} {R : Room} {s : State} {m : MethodId} {args : Array Value} {below : List Frame} {meth : Method} {c : Code} {H : Heap} {locs : List Loc} {cells slots : Nat} {Q : State → Prop}
variable {Z : State → Heap → Prop} {G : mj_G} {rho0 rho : Nat → Nat} {ls : Array Slot} {pc j : Nat} {st : List Value} {M M1 : mj_M} {X X1 : mj_X} {v : Option Value}
/-- what is owed behind a call that returns -/
def mj_Bk (p : Program) (l : Launch) (e : Env) (R : Room) (s : State) (m : MethodId) (args : Array Value) (below : List Frame) (meth : Method) (c : Code) (Q : State → Prop) (G : mj_G) (rho0 rho : Nat → Nat) (M M1 : mj_M) (v : Option Value) (cells slots mc ms : Nat) (pc : Nat) (ls : Array Slot) (rest : List Value) : Prop :=
  ∀ (rho' : Nat → Nat) (H1 : Heap) (locs1 : List Loc), mj_ag M.nr rho rho' → mj_r0 rho0 rho' → mj_In G rho' M1 H1 → va_S (mj_A G) s.heap H1 locs1 → W p l e R s m args below meth c H1 locs1 (cells + mc) (slots + ms) Q (F0 m (pc + 3) ls ((v.map (mj_vm rho')).toList ++ rest))
theorem mj_callS {n d0 k a b : Nat} (hZ : mj_Zok Z G rho0) (ih : mj_Sd Z G rho0 n) (hl : l.stackTraces = false) (hX : mj_mt k = some X) (hC : mj_Cx X p s m args meth c) (hE : mj_En Z G s s.heap) (hI : mj_In G rho M H) (r0 : mj_r0 rho0 rho) (hS : va_S (mj_A G) s.heap H locs) (hls : ls.size = X.2.2.1) (hmk : mj_mkin X.2.2.2.2.1 j a b = true) (hkd : (mj_mw a).1 = 0) (hdec : decode X.2.1 pc = .ok (.invokestatic j, 3))
    (hN : (mj_args b st).1.length = b) (hsum : ((mj_args b st).2.map fun v => v.category).sum < 9) (hsl : (lg_sl (mj_args b st).1).length ≤ mj_ml a) (hrun : mj_run n d0 a (0, lv_args 0 (mj_args b st).1, [], M) = some (.inl v, M1)) (hd1 : d0 + 1 ≤ R.frames) (hd2 : (d0 + 1) * 64 ≤ R.locals) (hc : cells + (M1.nc - M.nc) ≤ R.cells) (hs : slots + (M1.ns - M.ns) ≤ R.slots)
    (kk : mj_Bk p l e R s m args below meth c Q G rho0 rho M M1 v cells slots (M1.nc - M.nc) (M1.ns - M.ns) pc ls (mj_sm rho (mj_args b st).2)) : W p l e R s m args below meth c H locs cells slots Q (F0 m pc ls (mj_sm rho st)) := by
  obtain ⟨hx, hb, hr, hml, hown, hts, hlk, hnm, hxt⟩ := hC
  obtain ⟨X1, hX1, hpl, hlink⟩ := mj_mk_use hmk
  have hq1 := mj_Qall a X1 hX1
  have hpu := mj_plain_use hpl
  obtain ⟨hcd, hin⟩ := mj_cd_in hX1 (by rw [hkd]; decide)
  have hml1 : mj_ml a = X1.2.2.1 := by unfold mj_ml; rw [hX1]; rfl
  have hM := mj_met (rho := rho) ih hl hrun hX1 (by rw [← hml1]; exact hsl) r0
  have hst : mj_sm rho st = (mj_sm rho (mj_args b st).1).reverse ++ mj_sm rho (mj_args b st).2 := by
    rw [← mj_sm_rev, ← mj_sm_app, ← mj_args_eq hN]
  have hnA : (mj_sm rho (mj_args b st).1).length = b := by simp [mj_sm, hN]
  have hWr : 2 * (F0 m pc ls (mj_sm rho st)).monitorRoom + ((mj_sm rho (mj_args b st).2).map fun v => v.category).sum ≤ 8 := lv_room (by rw [mj_sm_cat]; omega)
  have hPre : PreS s H (mj_Pc Z G rho M (mj_args b st).1) (mj_sm rho (mj_args b st).1) := ⟨mj_Pc_blind hZ, fun U hU hW => ⟨rfl, by rw [hU]; exact hE.to hZ hS hW, by rw [hU]; exact hI⟩⟩
  have hfr : (mj_rm d0 (M1.nc - M.nc) (M1.ns - M.ns)).frames + 1 ≤ R.frames ∧ 8 + (X1.2.2.1 + 11) + (mj_rm d0 (M1.nc - M.nc) (M1.ns - M.ns)).locals ≤ R.locals := ⟨hd1, by have := hq1.1; show 8 + (X1.2.2.1 + 11) + d0 * 64 ≤ R.locals; omega⟩
  have hgood := mj_good hts hcd
  have hstat : Cond.static X1.1 ∈ mj_GT := by
    rcases hq1.2.2.2 with h | ⟨-, ⟨-, h, -⟩ | ⟨h, -⟩ | ⟨h, -⟩⟩
    · rw [hkd] at h; cases h
    · exact h
    · rw [hkd] at h; cases h
    · rw [hkd] at h; cases h
  have hprm : ∀ sig, parseMethodDescriptor X1.1.desc = some sig → b = sig.parameters.length := fun sig h => by
    have h2 := hpu.2.2
    rw [h] at h2
    exact (Option.some.inj h2).symm
  by_cases hh : X1.2.2.2.2.2 = []
  · have hcode : mj_cd X1 = .code X1.1 X1.2.1 X1.2.2.1 X1.2.2.2.1 := by unfold mj_cd; rw [if_pos hh]
    have hci : Cond.code X1.1 X1.2.1 X1.2.2.1 X1.2.2.2.1 ∈ mj_cd X1 :: mj_GT := by rw [← hcode]; exact List.mem_cons_self
    rcases hlink with hlk1 | ⟨-, -, hnest⟩
    · refine mj_back (va_runS (nL := X.2.2.1) (Ts := mj_GT) ⟨hx, hb, hml, hown, hts⟩ hM ⟨⟨rfl, rfl, hfr.1, hfr.2, hgood, hci, hts _ (by rw [← hcode]; exact hcd), hts _ hin, ⟨hpu.1, hpu.2.1⟩, hprm, hts _ hlk1⟩, hts _ hstat⟩ hPre rfl hnA hls hst hWr hdec ⟨hc, hs⟩) hS kk
    · refine mj_back (va_runSN (nL := X.2.2.1) (Ts := mj_GT) (host := "PacketSieve") ⟨hx, hb, hml, hown, hts⟩ hM ⟨⟨⟨rfl, rfl, hfr.1, hfr.2, hgood, hci⟩, hts _ (by rw [← hcode]; exact hcd), hts _ hin, ⟨hpu.1, hpu.2.1⟩, hprm, va_Nw.use rfl (hZ.2.2 s s.heap hE.2.2.2.2.2 _ hnest rfl)⟩, hts _ hstat, trivial⟩ hPre rfl hnA hls hst hWr hdec ⟨hc, hs⟩) hS kk
  · have hcode : mj_cd X1 = .codeWith X1.1 X1.2.1 X1.2.2.1 X1.2.2.2.1 X1.2.2.2.2.2 := by unfold mj_cd; rw [if_neg hh]
    have hci : Cond.codeWith X1.1 X1.2.1 X1.2.2.1 X1.2.2.2.1 X1.2.2.2.2.2 ∈ mj_cd X1 :: mj_GT := by rw [← hcode]; exact List.mem_cons_self
    rcases hlink with hlk1 | ⟨-, hemp, -⟩
    · refine mj_back (vx_runSW (nL := X.2.2.1) (Ts := mj_GT) (hh := X1.2.2.2.2.2) ⟨hx, hb, hml, hown, hts⟩ hM ⟨⟨rfl, rfl, hfr.1, hfr.2, hgood, hci⟩, hts _ (by rw [← hcode]; exact hcd), hts _ hin, ⟨hpu.1, hpu.2.1⟩, hprm, hts _ hlk1, hts _ hstat⟩ hPre rfl hnA hls hst hWr hdec ⟨hc, hs⟩) hS kk
    · exact absurd hemp hh
/-- a call with a receiver: the stack -/
theorem mj_recv_st {b r : Nat} {tl : List Value} (hN : (mj_args (b + 1) st).1.length = b + 1) (ha : (mj_args (b + 1) st).1 = .ref r :: tl) : mj_sm rho st = (mj_sm rho tl).reverse ++ .ref (rho r) :: mj_sm rho (mj_args (b + 1) st).2 ∧ (mj_sm rho tl).length = b ∧ mj_sm rho (mj_args (b + 1) st).1 = .ref (rho r) :: mj_sm rho tl := by
  have h1 : mj_sm rho (mj_args (b + 1) st).1 = .ref (rho r) :: mj_sm rho tl := by rw [ha]; rfl
  refine ⟨?_, ?_, h1⟩
  · have h2 := mj_args_eq hN
    rw [congrArg (mj_sm rho) h2, mj_sm_app, mj_sm_rev, h1]
    simp
  · have h3 := hN
    rw [ha] at h3
    simp [mj_sm] at h3 ⊢
    omega
theorem mj_callI {n d0 k a b r : Nat} {tl : List Value} (hZ : mj_Zok Z G rho0) (ih : mj_Sd Z G rho0 n) (hl : l.stackTraces = false) (hX : mj_mt k = some X) (hC : mj_Cx X p s m args meth c) (hE : mj_En Z G s s.heap) (hI : mj_In G rho M H) (r0 : mj_r0 rho0 rho) (hS : va_S (mj_A G) s.heap H locs) (hls : ls.size = X.2.2.1) (hmk : mj_mkin X.2.2.2.2.1 j a b = true) (hkd : (mj_mw a).1 = 2) (hdec : decode X.2.1 pc = .ok (.invokespecial j, 3))
    (hN : (mj_args (b + 1) st).1.length = b + 1) (har : (mj_args (b + 1) st).1 = .ref r :: tl) (hsum : ((mj_args (b + 1) st).2.map fun v => v.category).sum < 9) (hsl : (lg_sl (mj_args (b + 1) st).1).length ≤ mj_ml a) (hrun : mj_run n d0 a (0, lv_args 0 (mj_args (b + 1) st).1, [], M) = some (.inl v, M1)) (hd1 : d0 + 1 ≤ R.frames) (hd2 : (d0 + 1) * 64 ≤ R.locals) (hc : cells + (M1.nc - M.nc) ≤ R.cells) (hs : slots + (M1.ns - M.ns) ≤ R.slots)
    (kk : mj_Bk p l e R s m args below meth c Q G rho0 rho M M1 v cells slots (M1.nc - M.nc) (M1.ns - M.ns) pc ls (mj_sm rho (mj_args (b + 1) st).2)) : W p l e R s m args below meth c H locs cells slots Q (F0 m pc ls (mj_sm rho st)) := by
  obtain ⟨hx, hb, hr, hml, hown, hts, hlk, hnm, hxt⟩ := hC
  obtain ⟨X1, hX1, hpl, hlink⟩ := mj_mk_use hmk
  have hq1 := mj_Qall a X1 hX1
  have hpu := mj_plain_use hpl
  obtain ⟨hcd, hin⟩ := mj_cd_in hX1 (by rw [hkd]; decide)
  have hml1 : mj_ml a = X1.2.2.1 := by unfold mj_ml; rw [hX1]; rfl
  have hM := mj_met (rho := rho) ih hl hrun hX1 (by rw [← hml1]; exact hsl) r0
  obtain ⟨hst, hnA, hsmA⟩ := mj_recv_st (rho := rho) hN har
  have hWr : 2 * (F0 m pc ls (mj_sm rho st)).monitorRoom + ((mj_sm rho (mj_args (b + 1) st).2).map fun v => v.category).sum ≤ 8 := lv_room (by rw [mj_sm_cat]; omega)
  have hPre : PreS s H (mj_Pc Z G rho M (mj_args (b + 1) st).1) (.ref (rho r) :: mj_sm rho tl) := ⟨mj_Pc_blind hZ, fun U hU hW => ⟨by rw [hsmA], by rw [hU]; exact hE.to hZ hS hW, by rw [hU]; exact hI⟩⟩
  have hfr : (mj_rm d0 (M1.nc - M.nc) (M1.ns - M.ns)).frames + 1 ≤ R.frames ∧ 8 + (X1.2.2.1 + 11) + (mj_rm d0 (M1.nc - M.nc) (M1.ns - M.ns)).locals ≤ R.locals := ⟨hd1, by have := hq1.1; show 8 + (X1.2.2.1 + 11) + d0 * 64 ≤ R.locals; omega⟩
  have hgood := mj_good hts hcd
  have hprm : ∀ sig, parseMethodDescriptor X1.1.desc = some sig → b = sig.parameters.length := fun sig h => by
    have h2 := hpu.2.2
    rw [h] at h2
    exact (Option.some.inj h2).symm
  rcases hq1.2.2.2 with h | ⟨-, ⟨h, -⟩ | ⟨h, -⟩ | ⟨-, hh, hname, hret, -, hinst⟩⟩
  · rw [hkd] at h; cases h
  · rw [hkd] at h; cases h
  · rw [hkd] at h; cases h
  have hcode : mj_cd X1 = .code X1.1 X1.2.1 X1.2.2.1 none := by unfold mj_cd; rw [if_pos hh, hret]
  have hci : Cond.code X1.1 X1.2.1 X1.2.2.1 none ∈ mj_cd X1 :: mj_GT := by rw [← hcode]; exact List.mem_cons_self
  rcases hlink with hlk1 | ⟨h, -⟩
  · exact mj_back (va_runI (nL := X.2.2.1) (Ts := mj_GT) ⟨hx, hb, hml, hown, hts⟩ hM ⟨⟨rfl, rfl, hfr.1, hfr.2, hgood, hci, hts _ (by rw [← hcode]; exact hcd), hts _ hin, ⟨hpu.1, hpu.2.1⟩, hprm, hts _ hlk1⟩, hname, hts _ hinst⟩ hPre rfl hnA hls hst hWr hdec ⟨hc, hs⟩) hS kk
  · rw [hkd] at h; cases h
theorem mj_callV {n d0 k a b r : Nat} {tl : List Value} (hZ : mj_Zok Z G rho0) (hT : mj_ThrowLaw Z G) (ih : mj_Sd Z G rho0 n) (hl : l.stackTraces = false) (hX : mj_mt k = some X) (hC : mj_Cx X p s m args meth c) (hE : mj_En Z G s s.heap) (hI : mj_In G rho M H) (r0 : mj_r0 rho0 rho) (hS : va_S (mj_A G) s.heap H locs) (hls : ls.size = X.2.2.1) (hmk : mj_mkin X.2.2.2.2.1 j a b = true) (hkd : (mj_mw a).1 = 1) (hdec : decode X.2.1 pc = .ok (.invokevirtual j, 3))
    (hN : (mj_args (b + 1) st).1.length = b + 1) (har : (mj_args (b + 1) st).1 = .ref r :: tl) (hr1 : r < M.nr) (hr2 : (mj_sh r).1 = 0) (hr3 : (mj_sh r).2.1 = ((mj_mt a).map fun q => q.2.2.2.2.1).getD 99) (hsum : ((mj_args (b + 1) st).2.map fun v => v.category).sum < 9) (hsl : (lg_sl (mj_args (b + 1) st).1).length ≤ mj_ml a) {o1 : mj_R} (hrun : mj_run n d0 a (0, lv_args 0 (mj_args (b + 1) st).1, [], M) = some (o1, M1)) (hd1 : d0 + 1 ≤ R.frames) (hd2 : (d0 + 1) * 64 ≤ R.locals) (hc : cells + (M1.nc - M.nc) ≤ R.cells) (hs : slots + (M1.ns - M.ns) ≤ R.slots)
    (kk : ∀ v, o1 = .inl v → mj_Bk p l e R s m args below meth c Q G rho0 rho M M1 v cells slots (M1.nc - M.nc) (M1.ns - M.ns) pc ls (mj_sm rho (mj_args (b + 1) st).2))
    (kx : ∀ q, o1 = .inr q → ∀ (rho' : Nat → Nat) (H1 : Heap) (locs1 : List Loc) (ce : Cell) (q9 : Addr), mj_ag M.nr rho rho' → mj_r0 rho0 rho' → mj_In G rho' M1 H1 → va_S (mj_A G) s.heap H1 locs1 → H1[q9]? = some ce → ce.vm = .none → s.vm.findClass (mj_en q) = some ce.cls → vx_W p l e R s m args below meth c H1 locs1 (cells + (M1.nc - M.nc)) (slots + (M1.ns - M.ns)) Q (F0 m pc ls (mj_sm rho (mj_args (b + 1) st).2)) q9) : W p l e R s m args below meth c H locs cells slots Q (F0 m pc ls (mj_sm rho st)) := by
  obtain ⟨hx, hb, hr, hml, hown, hts, hlk, hnm, hxt⟩ := hC
  obtain ⟨X1, hX1, hpl, hlink⟩ := mj_mk_use hmk
  have hq1 := mj_Qall a X1 hX1
  have hpu := mj_plain_use hpl
  obtain ⟨hcd, hin⟩ := mj_cd_in hX1 (by rw [hkd]; decide)
  have hml1 : mj_ml a = X1.2.2.1 := by unfold mj_ml; rw [hX1]; rfl
  obtain ⟨hst, hnA, hsmA⟩ := mj_recv_st (rho := rho) hN har
  have hWr : 2 * (F0 m pc ls (mj_sm rho st)).monitorRoom + ((mj_sm rho (mj_args (b + 1) st).2).map fun v => v.category).sum ≤ 8 := lv_room (by rw [mj_sm_cat]; omega)
  have hr4 : (mj_sh r).2.1 = X1.2.2.2.2.1 := by rw [hr3, hX1]; rfl
  have hr5 : (mj_sh r).2.1 < 12 := mj_sh_a r (mj_sh_in (by omega)) hr2
  have hrc := va_recv hE.1 hI.1 (mj_cls_at hr5) (mj_ws_ob hr1 hr2 rfl)
  have hcls : mj_cn (mj_sh r).2.1 = X1.1.cls := by rw [hr4]; exact hq1.2.1.symm
  have hPre : PreV s H X1.1.cls (rho r) (mj_Pc Z G rho M (mj_args (b + 1) st).1) (mj_sm rho tl) := ⟨mj_Pc_blind hZ, by rw [← hcls]; exact hrc, fun U hU hW => ⟨by rw [hsmA], by rw [hU]; exact hE.to hZ hS hW, by rw [hU]; exact hI⟩⟩
  have hfr : (mj_rm d0 (M1.nc - M.nc) (M1.ns - M.ns)).frames + 1 ≤ R.frames ∧ 8 + (X1.2.2.1 + 11) + (mj_rm d0 (M1.nc - M.nc) (M1.ns - M.ns)).locals ≤ R.locals := ⟨hd1, by have := hq1.1; show 8 + (X1.2.2.1 + 11) + d0 * 64 ≤ R.locals; omega⟩
  have hgood := mj_good hts hcd
  have hprm : ∀ sig, parseMethodDescriptor X1.1.desc = some sig → b = sig.parameters.length := fun sig h => by
    have h2 := hpu.2.2
    rw [h] at h2
    exact (Option.some.inj h2).symm
  rcases hq1.2.2.2 with h | ⟨-, ⟨h, -⟩ | ⟨-, hh, -, hinst, hsel⟩ | ⟨h, -⟩⟩
  · rw [hkd] at h; cases h
  · rw [hkd] at h; cases h
  rotate_left
  · rw [hkd] at h; cases h
  have hcode : mj_cd X1 = .code X1.1 X1.2.1 X1.2.2.1 X1.2.2.2.1 := by unfold mj_cd; rw [if_pos hh]
  have hci : Cond.code X1.1 X1.2.1 X1.2.2.1 X1.2.2.2.1 ∈ mj_cd X1 :: mj_GT := by rw [← hcode]; exact List.mem_cons_self
  rcases hlink with hlk1 | ⟨h, -⟩
  rotate_left
  · rw [hkd] at h; cases h
  have cw : CallW R s args (mj_cn X.2.2.2.2.1) X1.1.cls j X1.1 X1.2.1 X1.2.2.1 X1.2.2.2.1 (mj_cd X1 :: mj_GT) (mj_rm d0 (M1.nc - M.nc) (M1.ns - M.ns)) (M1.nc - M.nc) (M1.ns - M.ns) b := ⟨⟨rfl, rfl, hfr.1, hfr.2, hgood, hci, hts _ (by rw [← hcode]; exact hcd), hts _ hin, ⟨hpu.1, hpu.2.1⟩, hprm, hts _ hlk1⟩, hts _ hinst, hts _ hsel⟩
  cases o1 with
  | inl v1 =>
    have hM := mj_met (rho := rho) ih hl hrun hX1 (by rw [← hml1]; exact hsl) r0
    exact mj_back (va_runV (nL := X.2.2.1) (Ts := mj_GT) ⟨hx, hb, hml, hown, hts⟩ hM cw hPre rfl hnA hls hst hWr hdec ⟨hc, hs⟩) hS (kk v1 rfl)
  | inr q =>
    have hM := mj_metX (rho := rho) hT ih hl hrun hX1 hh (by rw [← hml1]; exact hsl) r0
    exact mj_threw (vx_runV (nL := X.2.2.1) (Ts := mj_GT) ⟨hx, hb, hml, hown, hts⟩ hM cw hPre rfl hnA hls hst hWr hdec ⟨hc, hs⟩) hS (kx q rfl)
end MJM
