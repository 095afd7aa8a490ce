/-! FROM THE LAW'S ENTRY TO ONE RUN OF THE MINI MACHINE -/
def mj_ncs : List (String × String) := [(mj_en 1, mj_en 0), (mj_en 2, mj_en 0)]
/-- what stays as it is while the law runs -/
def mj_Zs (G : mj_G) (rho0 adV : Nat → Nat) (U : State) (H : Heap) : Prop := mj_SZ (mj_A G) (fun j => rho0 (2000 + j)) adV U H ∧ vx_Zq Bundle.tN "UNASSIGNED_STACK" Bundle.steD (mj_A G) U H ∧ vx_Zq Bundle.tN "SUPPRESSED_SENTINEL" Bundle.listD (mj_A G) U H ∧ (∀ w ∈ lw_tbl, mj_bw w = true → va_Nw w U) ∧ (∀ w ∈ tables_1, mj_isNest w = true → va_Nw w U) ∧ (∀ (j : Nat) (q : Nat × Nat × String), mj_str[j]? = some q → vk_R (mj_cn q.1) q.2.1 q.2.2 (rho0 (2000 + j)) U) ∧ ∀ q ∈ mj_ncs, va_Nc q.1 q.2 U
theorem mj_bw_warm {w : Cond} (h : mj_bw w = true) {U U' : State} (hW : U.WarmedH U'.vm) (hw : va_Nw w U) : va_Nw w U' := by
  have h1 : w.before #[] (U.setVm U'.vm) = true := Cond.before_warmed hW w (by cases w <;> first | (cases h; done) | trivial) hw
  exact va_tabs (mj_bw_ot h) (rfl : (U.setVm U'.vm).vm = U'.vm) h1
theorem mj_nest_warm {w : Cond} (h : mj_isNest w = true) {U U' : State} (hW : U.WarmedH U'.vm) (hw : va_Nw w U) : va_Nw w U' := by
  cases w <;> first | (cases h; done) | exact va_Nw.warmM hW hw
theorem mj_Zs_ok (G : mj_G) (rho0 adV : Nat → Nat) : mj_Zok (mj_Zs G rho0 adV) G rho0 := by
  refine ⟨fun U U' H H' h hW hk => ?_, fun U H h => h.2.2.2.2.2.1, fun U H h => h.2.2.2.2.1⟩
  obtain ⟨h1, h2, h3, h4, h5, h6, h7⟩ := h
  have hk' : ∀ q : Nat, q < H.size → ¬ mj_A G q → H'[q]? = H[q]? := fun q _ hq => hk q (Nat.not_le.mp hq)
  exact ⟨h1.to hW.alike hk', (h2.kept hk').moved hW.alike, (h3.kept hk').moved hW.alike, fun w hw hb => mj_bw_warm hb hW (h4 w hw hb), fun w hw hb => mj_nest_warm hb hW (h5 w hw hb), fun j q hq => (h6 j q hq).warm hW, fun q hq => (h7 q hq).moved hW.alike⟩
theorem mj_Zs_T (G : mj_G) (rho0 adV : Nat → Nat) : mj_ZT (mj_Zs G rho0 adV) G := fun _ _ h => ⟨h.2.1, h.2.2.1, h.2.2.2.1⟩
theorem mj_Zs_S (G : mj_G) (rho0 adV : Nat → Nat) : mj_ZS (mj_Zs G rho0 adV) G rho0 adV := fun _ _ h => h.1
/-- memory at the law's entry -/
def mj_M0 (xs : Nat → Int32) (L : Nat) : mj_M := (fun r i => if r = 3000 then xs i else if r = 3001 then nI L else 0, fun _ _ => 0, fun _ _ => none, 0, 0, 0)
/-- WHAT IS LEFT: the mini machine's run of the law -/
def mj_Goal : Prop := ∀ (L : Nat) (xs : Nat → Int32), L ≤ 2049 → ∃ (n d : Nat) (M' : mj_M), d ≤ 1312 ∧ mj_run n d kLaw_law (0, [(0, .ref 3000)], [], mj_M0 xs L) = some (.inl (some (.int 1)), M') ∧ M'.nc ≤ 601024 ∧ M'.ns ≤ 7293000
theorem mj_arrOf {ty : FieldType} {args : Array Value} {s : State} (h : (Cond.arrayClass ty).before args s = true) : ∃ cA : ClassId, ArrOfT s cA ty ∧ s.vm.findClass ("[" ++ ty.toString) = some cA := by
  obtain ⟨cB, kB, comp, hcB, hkB, hkind⟩ := Cond.arrayClass_spec h
  exact ⟨cB, fun n z => ⟨fun k h => (by cases h), kB, hkB, comp, hkind⟩, hcB⟩
theorem mj_Kof {args : Array Value} {s : State} (hts : ∀ w ∈ mj_GT, w.before args s = true) : ∃ (cA : Nat → ClassId) (D : va_G), va_K D mj_cls (mj_tys cA) s := by
  obtain ⟨a0, p0, q0⟩ := mj_arrOf (hts _ (mj_ar 0 (by decide)))
  obtain ⟨a1, p1, q1⟩ := mj_arrOf (hts _ (mj_ar 1 (by decide)))
  obtain ⟨a2, p2, q2⟩ := mj_arrOf (hts _ (mj_ar 2 (by decide)))
  obtain ⟨a3, p3, q3⟩ := mj_arrOf (hts _ (mj_ar 3 (by decide)))
  have hk : ∀ ci : Nat, ∃ z : ClassId × (Nat → Nat), ci < 12 → u_Kn s (mj_cn ci) (mj_T ci) (mj_fl ci).length z.1 z.2 := by
    intro ci
    by_cases h : ci < 12
    · obtain ⟨c1, c2, c3, c4, c5⟩ := mj_CFall ci h
      obtain ⟨x, y, hz⟩ := u_known (n := (mj_fl ci).length) hts c3 (hts _ c2)
      exact ⟨(x, y), fun _ => hz⟩
    · exact ⟨(0, fun _ => 0), fun q => absurd q h⟩
  refine ⟨fun t => match t with | 0 => a0 | 1 => a1 | 2 => a2 | _ => a3, (fun ci => (Classical.choose (hk ci)).1, fun ci => (Classical.choose (hk ci)).2), ?_, ?_⟩
  · intro ci q hq
    have hlt : ci < 12 := by
      have := (List.getElem?_eq_some_iff.mp hq).1
      simpa [mj_cls] using this
    rw [mj_cls_at hlt] at hq
    cases hq
    exact Classical.choose_spec (hk ci) hlt
  · intro k q hq
    match k, hq with
    | 0, hq => cases hq; exact ⟨p0, q0⟩
    | 1, hq => cases hq; exact ⟨p1, q1⟩
    | 2, hq => cases hq; exact ⟨p2, q2⟩
    | 3, hq => cases hq; exact ⟨p3, q3⟩
    | k + 4, hq => simp [mj_tys] at hq
set_option maxRecDepth 100000 in
theorem nf_1 : ∀ i, i < 13 → Cond.exactly (mj_tm i) "java/lang/String" ∈ mj_fc := by decide +kernel
set_option maxRecDepth 100000 in
theorem nf_2 : ∀ i, i < 13 → Cond.eq (.field (mj_tm i) "java/lang/String" "coder" "B") (.int 0) ∈ mj_fc := by decide +kernel
set_option maxRecDepth 100000 in
theorem nf_3 : ∀ i, i < 13 → Cond.arrayOf (.field (mj_tm i) "java/lang/String" "value" "[B") .byte ∈ mj_fc := by decide +kernel
set_option maxRecDepth 100000 in
theorem nf_4 : ∀ i, i < 13 → Cond.eq (.length (.field (mj_tm i) "java/lang/String" "value" "[B")) (.int (Int32.ofNat (mj_slen.getD i 0))) ∈ mj_fc := by decide +kernel
set_option maxRecDepth 100000 in
theorem nf_5 : ∀ i, i < 13 → ∀ j, j < mj_slen.getD i 0 → Cond.eq (.elem (.field (mj_tm i) "java/lang/String" "value" "[B") (.int (Int32.ofNat j))) (.int ((mj_sbyt.getD i []).getD j 0)) ∈ mj_fc := by decide +kernel
set_option maxRecDepth 100000 in
theorem nf_7 : Cond.eq (.static "java/lang/String" "COMPACT_STRINGS" "Z") (.int 1) ∈ mj_fc ∧ Cond.isRef (.static "jdk/internal/util/Preconditions" "SIOOBE_FORMATTER" "Ljava/util/function/BiFunction;") ∈ mj_fc ∧ Cond.isRef (.static Bundle.tN "UNASSIGNED_STACK" Bundle.steD) ∈ mj_fc ∧ Cond.isRef (.static Bundle.tN "SUPPRESSED_SENTINEL" Bundle.listD) ∈ mj_fc := by decide +kernel
set_option maxRecDepth 100000 in
theorem nf_8 : ∀ q ∈ mj_ncs, Cond.not (.castable q.1 q.2) ∈ mj_fc := by decide +kernel
set_option maxRecDepth 100000 in
theorem nf_9 : Cond.laysStatic "java/lang/String" "COMPACT_STRINGS" "Z" ∈ lw_tbl ∧ Cond.laysStatic "jdk/internal/util/Preconditions" "SIOOBE_FORMATTER" "Ljava/util/function/BiFunction;" ∈ lw_tbl ∧ Cond.laysStatic Bundle.tN "UNASSIGNED_STACK" Bundle.steD ∈ lw_tbl ∧ Cond.laysStatic Bundle.tN "SUPPRESSED_SENTINEL" Bundle.listD ∈ lw_tbl ∧ Cond.initialized Bundle.tN ∈ lw_tbl := by decide +kernel
set_option maxRecDepth 100000 in
theorem nf_10 : ∀ q ∈ mj_str, Cond.stringRef (mj_cn q.1) q.2.1 q.2.2 ∈ lw_tbl := by decide +kernel
theorem mj_nest_ot {w : Cond} (h : mj_isNest w = true) : w.onTables = true := by
  cases w <;> first | (cases h; done) | rfl
theorem mj_init {args : Array Value} {s : State} {b L : Nat} {xs : Nat → Int32} (hts : ∀ w ∈ lw_tbl, w.before args s = true) (hX : va_X b L xs s s.heap) (hb : b < s.heap.size) (hL : L ≤ 2049) (hgv : (Jvm.Cond.and given_1 narrow_1).before args s = true) :
    ∃ (G : mj_G) (rho0 adV : Nat → Nat), G.b0 = s.heap.size ∧ rho0 3000 = b ∧ mj_En (mj_Zs G rho0 adV) G s s.heap ∧ mj_In G rho0 (mj_M0 xs L) s.heap := by
  have hf := flat_of_before _ hgv
  have hg : ∀ w ∈ mj_GT, w.before args s = true := fun w hw => hts w (List.mem_filter.mp hw).1
  obtain ⟨cA, D, hK⟩ := mj_Kof hg
  have hA : ∀ a : Nat, a < s.heap.size → ¬ (fun q : Nat => s.heap.size ≤ q) a := fun a h => Nat.not_le.mpr h
  obtain ⟨adK, adV, hS, hev⟩ := vk_Sof (N := 13) (tm := mj_tm) (len := mj_slen) (byt := mj_sbyt) (A := fun q : Nat => s.heap.size ≤ q) (fun i hi => by have := (mj_slen_ok i hi).1; omega) (fun i hi => hf _ (nf_1 i hi)) (fun i hi => hf _ (nf_2 i hi)) (fun i hi => hf _ (nf_3 i hi)) (fun i hi => hf _ (nf_4 i hi)) (fun i hi j hj => hf _ (nf_5 i hi j hj)) (fun i j hi hj hij => (nf_6 i hi j hj hij).imp (hf _) (hf _)) hA
  have hz : ∀ j : Nat, (fun j => (fun r : Nat => if r = 3000 then b else adK (r - 2000)) (2000 + j)) j = if j = 1000 then b else adK j := by
    intro j
    show (if 2000 + j = 3000 then b else adK (2000 + j - 2000)) = _
    by_cases h : j = 1000
    · rw [if_pos h, if_pos (by omega)]
    · rw [if_neg h, if_neg (by omega), Nat.add_sub_cancel_left]
  have hadK : ∀ j : Nat, j < 13 → (fun j => (fun r : Nat => if r = 3000 then b else adK (r - 2000)) (2000 + j)) j = adK j := fun j hj => by rw [hz, if_neg (by omega)]
  refine ⟨(s.heap.size, cA, D, b, L, xs), fun r => if r = 3000 then b else adK (r - 2000), adV, rfl, rfl, ⟨hK, Nat.le_refl _, hX, hb, by show L < 2 ^ 31; omega, ⟨⟨fun i hi => ?_, fun i j hi hj hij => ?_⟩, va_Zof (hts _ nf_9.1) (hts _ (List.mem_filter.mp ji_S).1) (va_eqi (hf _ nf_7.1)) hA, va_Zqof (hts _ nf_9.2.1) (hts _ (List.mem_filter.mp ji_P).1) (hf _ nf_7.2.1) hA⟩, vx_Zqof (hts _ nf_9.2.2.1) (hts _ nf_9.2.2.2.2) (hf _ nf_7.2.2.1) hA, vx_Zqof (hts _ nf_9.2.2.2.1) (hts _ nf_9.2.2.2.2) (hf _ nf_7.2.2.2) hA, fun w hw hb => va_Nw.of (mj_bw_ot hb) (hts w hw), fun w hw hb => va_Nw.of (mj_nest_ot hb) (hts w (List.mem_append_right _ hw)), fun j q hq => ?_, fun q hq => va_Nc.of (hf _ (nf_8 q hq))⟩, ?_⟩
  · have := hS.1 i hi
    rw [hadK i hi]
    exact this
  · rw [hadK i hi, hadK j hj] at hij
    exact hS.2 i j hi hj hij
  · have hj13 := mj_str_lt hq
    have h1 := hev j hj13
    unfold mj_tm at h1
    rw [hq] at h1
    have h2 : (if 2000 + j = 3000 then b else adK (2000 + j - 2000)) = adK j := hadK j hj13
    show vk_R _ _ _ (if 2000 + j = 3000 then b else adK (2000 + j - 2000)) s
    rw [h2]
    exact vk_R.of (hts _ (nf_10 q (List.mem_of_getElem? hq))) h1
  · refine ⟨fun k q h => (by cases h), ⟨fun i j p q h => (by cases h), fun k q h => (by cases h)⟩, Nat.zero_le _, fun r k q h => (by cases h), rfl, ?_, rfl⟩
    funext i
    rfl
