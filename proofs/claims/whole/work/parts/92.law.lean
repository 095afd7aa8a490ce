/-! THE CLAIM OUT OF ONE WALK OF THE LAW'S BODY. Your part is whole_start (and what it stands on); all else here is the same for every law, but numbers. -/
def R_law : String := "PacketSieveLaw"
def lw_P (b : Addr) (xs : List Int32) (args : Array Value) (s : State) : Prop := args = #[.ref b] ∧ s.IntsAt b xs ∧ xs.length ≤ 2049 ∧ (Jvm.Cond.and given_1 narrow_1).before args s = true
def lw_Q (_ : Array Value) (s : State) (o : Outcome) (t : State) : Prop := o = .returned (some (.int 1)) ∧ Framed s o t [] 601024 7293000
def lw_Z (below : List Frame) (a : Array Value) (s : State) : State → Prop := fun t => ∃ o, t.status = .running ∧ Ended t below o ∧ lw_Q a s o t
/-- the law's own end, with 1 on the stack, nothing written that was there before, its room as the claim has it -/
theorem lw_ret {p : Program} {l : Launch} {e : Env} {s : State} {m : MethodId} {below : List Frame} {meth : Method} {c : Code} {b : Nat} (hx : p.tables.exec = Jvm.exec) (hb : c.code = code) (hr : meth.sig.returnType = ret) (hlocks : meth.locks = false) {pc : Nat} {H : Heap} {ls : Array Slot} (hdg : decode code pc = .ok (.ireturn, 1)) : W p l e room_1 s m #[Value.ref b] below meth c H [] 601024 7293000 (lw_Z below #[Value.ref b] s) (F0 m pc ls [.int 1]) := by
  intro T hT X
  obtain ⟨fs, hret, hrun, hended, hW, hframe⟩ := X.leave (v := some (.int 1)) (hlocks := hlocks) (fun h => by rw [hr] at h; cases h)
  have hmeth' : T.vm.method? m = some meth := X.method'
  refine ⟨T.setFrames fs, ?_, .returned (some (.int 1)), hrun, hended, rfl, ⟨_, rfl⟩, hW, hframe⟩
  jvm_step X.here [X.here.top, hx, hb, hdg, hmeth', hr, ret, narrow_b1]
  (try refine ⟨rfl, ?_⟩); (try refine ⟨rfl, ?_⟩)
  first | (intro acts; rw [hret _ acts rfl rfl rfl]) | rw [hret _ _ rfl rfl rfl]
  exact Steps.refl _
/-- what holds at the law's entry: the machine, the code, the tables' words (any of lw_tbl by 'hts w (by decide +kernel)'), the script of L ints xs at the cell b, what the Statement gives of the start (any of its parts by flat_of_before) -/
def lw_At (p : Program) (s : State) (m : MethodId) (meth : Method) (c : Code) (b L : Nat) (xs : Nat → Int32) : Prop :=
  p.tables.exec = Jvm.exec ∧ c.code = code ∧ meth.sig.returnType = ret ∧ c.maxLocals = 7 ∧ s.vm.findClass R_law = some m.cls ∧ (∀ w ∈ lw_tbl, w.before #[Value.ref b] s = true) ∧ va_X b L xs s s.heap ∧ b < s.heap.size ∧ meth.locks = false ∧ (Jvm.Cond.and given_1 narrow_1).before #[Value.ref b] s = true
/-- the law's body, out of one run of the mini machine -/
theorem mj_law_start (goal : mj_Goal) (hCt : ∀ (G : mj_G) (rho0 adV : Nat → Nat), mj_CatchLaw (mj_Zs G rho0 adV) G) {p : Program} {e : Env} {s : State} {m : MethodId} {below : List Frame} {meth : Method} {c : Code} (l : Launch) (hl : l.stackTraces = false) {b L : Nat} {xs : Nat → Int32} (hL : L ≤ 2049) (C0 : lw_At p s m meth c b L xs) (hname : meth.name = "law") (htab : c.exceptionTable.toList = []) : W p l e room_1 s m #[Value.ref b] below meth c s.heap [] 0 0 (lw_Z below #[Value.ref b] s) (entryFrame m #[Value.ref b] 7) := by
  obtain ⟨hx, hb, hr, hml, hown, hts, hX, hbl, hlocks, hgv⟩ := C0
  obtain ⟨G, rho0, adV, hb0, hr3, hEn, hIn⟩ := mj_init hts hX hbl hL hgv
  obtain ⟨n, d, M', hd, hrun, hnc, hns⟩ := goal L xs hL
  have hsd := mj_sound (mj_Zs_ok G rho0 adV) (mj_lib_law (mj_str_law (mj_Zs_S G rho0 adV))) (mj_throw_law (mj_Zs_T G rho0 adV)) (hCt G rho0 adV) n
  have hXl : mj_mt kLaw_law = some (⟨"PacketSieveLaw", "law", "([I)Z"⟩, code, 7, some .boolean, 12, []) := rfl
  have hC : mj_Cx (⟨"PacketSieveLaw", "law", "([I)Z"⟩, code, 7, some .boolean, 12, []) p s m #[Value.ref b] meth c := ⟨hx, hb, hr, hml, hown, fun w hw => hts w (List.mem_filter.mp hw).1, hlocks, hname, htab⟩
  have hP : mj_Pc (mj_Zs G rho0 adV) G rho0 (mj_M0 xs L) [.ref 3000] #[Value.ref b] s := ⟨by show #[Value.ref b] = #[Value.ref (rho0 3000)]; rw [hr3], hEn, hIn⟩
  refine mj_body (X := (⟨"PacketSieveLaw", "law", "([I)Z"⟩, code, 7, some .boolean, 12, [])) hsd hl hrun hXl (by decide) (fun _ _ _ => rfl) hC hP (Nat.le_trans hd (by decide)) (Nat.le_trans (Nat.mul_le_mul_right 64 hd) (by decide)) hnc hns ?_ ?_ ?_
  · intro v pc' rho' H' locs' ls' cells' slots' i h1 h2 h3 h4 h5 h6 h7 h8 h9 h10
    cases h1
    rcases h8 with ⟨q, -⟩ | ⟨w, hw, rfl⟩ | ⟨w, hw, -⟩
    · cases q
    · cases hw
      refine va_forget (fun q hq => ?_) ?_
      · rw [← hb0]; exact h5.2.2 q hq
      refine W.widen (k := 601024) (n := 7293000) ?_ ?_ ?_
      · have : cells' + 0 = M'.nc := h9
        omega
      · have : slots' + 0 = M'.ns := h10
        omega
      exact lw_ret hx hb hr hlocks h7
    · cases hw
  · intro q pc' j E st' M2 rho' H' locs' ls' cells' slots' h1
    cases h1
  · intro q pc' st' rho' H' locs' ls' cells' slots' ce q9 h1
    cases h1
