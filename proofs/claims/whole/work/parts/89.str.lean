def jy_PC : MethodName := ⟨"jdk/internal/util/Preconditions", "checkIndex", "(IILjava/util/function/BiFunction;)I"⟩
abbrev jc_PC : ByteArray := prog_24_method_11_code
set_option maxRecDepth 20000 in
theorem jw_PC : Cond.code jy_PC jc_PC 3 (some .int) ∈ mj_GT := mj_t3 (i := 31) rfl rfl
set_option maxRecDepth 20000 in
theorem jk_PC : Cond.static jy_PC ∈ mj_GT := mj_t3 (i := 30) rfl rfl
theorem jd_PC_0 : decode jc_PC 0 = .ok (.iload_n 0, 1) := by decide +kernel
theorem jd_PC_1 : decode jc_PC 1 = .ok (.ifCond .lt 8, 3) := by decide +kernel
theorem jd_PC_4 : decode jc_PC 4 = .ok (.iload_n 0, 1) := by decide +kernel
theorem jd_PC_5 : decode jc_PC 5 = .ok (.iload_n 1, 1) := by decide +kernel
theorem jd_PC_6 : decode jc_PC 6 = .ok (.if_icmp .lt 10, 3) := by decide +kernel
theorem jd_PC_9 : decode jc_PC 9 = .ok (.aload_n 2, 1) := by decide +kernel
theorem jd_PC_10 : decode jc_PC 10 = .ok (.iload_n 0, 1) := by decide +kernel
theorem jd_PC_11 : decode jc_PC 11 = .ok (.iload_n 1, 1) := by decide +kernel
theorem jd_PC_12 : decode jc_PC 12 = .ok (.invokestatic 95, 3) := by decide +kernel
theorem jd_PC_15 : decode jc_PC 15 = .ok (.athrow, 1) := by decide +kernel
theorem jd_PC_16 : decode jc_PC 16 = .ok (.iload_n 0, 1) := by decide +kernel
theorem jd_PC_17 : decode jc_PC 17 = .ok (.ireturn, 1) := by decide +kernel
def jy_SC : MethodName := ⟨"java/lang/String", "checkIndex", "(II)V"⟩
abbrev jc_SC : ByteArray := prog_19_method_155_code
set_option maxRecDepth 20000 in
theorem jw_SC : Cond.code jy_SC jc_SC 2 none ∈ mj_GT := mj_t3 (i := 26) rfl rfl
set_option maxRecDepth 20000 in
theorem jk_SC : Cond.static jy_SC ∈ mj_GT := mj_t3 (i := 25) rfl rfl
theorem jd_SC_0 : decode jc_SC 0 = .ok (.iload_n 0, 1) := by decide +kernel
theorem jd_SC_1 : decode jc_SC 1 = .ok (.iload_n 1, 1) := by decide +kernel
theorem jd_SC_2 : decode jc_SC 2 = .ok (.getstatic 1053, 3) := by decide +kernel
theorem jd_SC_5 : decode jc_SC 5 = .ok (.invokestatic 1059, 3) := by decide +kernel
theorem jd_SC_8 : decode jc_SC 8 = .ok (.pop, 1) := by decide +kernel
theorem jd_SC_9 : decode jc_SC 9 = .ok (.return_, 1) := by decide +kernel
def jy_LC : MethodName := ⟨"java/lang/StringLatin1", "charAt", "([BI)C"⟩
abbrev jc_LC : ByteArray := prog_20_method_2_code
set_option maxRecDepth 20000 in
theorem jw_LC : Cond.code jy_LC jc_LC 2 (some .char) ∈ mj_GT := mj_t3 (i := 23) rfl rfl
set_option maxRecDepth 20000 in
theorem jk_LC : Cond.static jy_LC ∈ mj_GT := mj_t3 (i := 22) rfl rfl
theorem jd_LC_0 : decode jc_LC 0 = .ok (.iload_n 1, 1) := by decide +kernel
theorem jd_LC_1 : decode jc_LC 1 = .ok (.aload_n 0, 1) := by decide +kernel
theorem jd_LC_2 : decode jc_LC 2 = .ok (.arraylength, 1) := by decide +kernel
theorem jd_LC_3 : decode jc_LC 3 = .ok (.invokestatic 9, 3) := by decide +kernel
theorem jd_LC_6 : decode jc_LC 6 = .ok (.aload_n 0, 1) := by decide +kernel
theorem jd_LC_7 : decode jc_LC 7 = .ok (.iload_n 1, 1) := by decide +kernel
theorem jd_LC_8 : decode jc_LC 8 = .ok (.baload, 1) := by decide +kernel
theorem jd_LC_9 : decode jc_LC 9 = .ok (.sipush 255, 3) := by decide +kernel
theorem jd_LC_12 : decode jc_LC 12 = .ok (.iand, 1) := by decide +kernel
theorem jd_LC_13 : decode jc_LC 13 = .ok (.i2c, 1) := by decide +kernel
theorem jd_LC_14 : decode jc_LC 14 = .ok (.ireturn, 1) := by decide +kernel
def jy_IL : MethodName := ⟨"java/lang/String", "isLatin1", "()Z"⟩
abbrev jc_IL : ByteArray := prog_19_method_154_code
set_option maxRecDepth 20000 in
theorem jw_IL : Cond.code jy_IL jc_IL 1 (some .boolean) ∈ mj_GT := mj_t3 (i := 20) rfl rfl
set_option maxRecDepth 20000 in
theorem jk_IL : Cond.instanceMethod jy_IL ∈ mj_GT := mj_t3 (i := 18) rfl rfl
set_option maxRecDepth 20000 in
theorem js_IL : Cond.selects "java/lang/String" jy_IL jy_IL ∈ mj_GT := mj_t3 (i := 19) rfl rfl
theorem jd_IL_0 : decode jc_IL 0 = .ok (.getstatic 38, 3) := by decide +kernel
theorem jd_IL_3 : decode jc_IL 3 = .ok (.ifCond .eq 14, 3) := by decide +kernel
theorem jd_IL_6 : decode jc_IL 6 = .ok (.aload_n 0, 1) := by decide +kernel
theorem jd_IL_7 : decode jc_IL 7 = .ok (.getfield 15, 3) := by decide +kernel
theorem jd_IL_10 : decode jc_IL 10 = .ok (.ifCond .ne 7, 3) := by decide +kernel
theorem jd_IL_13 : decode jc_IL 13 = .ok (.iconst 1, 1) := by decide +kernel
theorem jd_IL_14 : decode jc_IL 14 = .ok (.goto 4, 3) := by decide +kernel
theorem jd_IL_17 : decode jc_IL 17 = .ok (.iconst 0, 1) := by decide +kernel
theorem jd_IL_18 : decode jc_IL 18 = .ok (.ireturn, 1) := by decide +kernel
def jy_CO : MethodName := ⟨"java/lang/String", "coder", "()B"⟩
abbrev jc_CO : ByteArray := prog_19_method_152_code
set_option maxRecDepth 20000 in
theorem jw_CO : Cond.code jy_CO jc_CO 1 (some .byte) ∈ mj_GT := mj_t3 (i := 9) rfl rfl
set_option maxRecDepth 20000 in
theorem jk_CO : Cond.instanceMethod jy_CO ∈ mj_GT := mj_t3 (i := 7) rfl rfl
set_option maxRecDepth 20000 in
theorem js_CO : Cond.selects "java/lang/String" jy_CO jy_CO ∈ mj_GT := mj_t3 (i := 8) rfl rfl
theorem jd_CO_0 : decode jc_CO 0 = .ok (.getstatic 38, 3) := by decide +kernel
theorem jd_CO_3 : decode jc_CO 3 = .ok (.ifCond .eq 10, 3) := by decide +kernel
theorem jd_CO_6 : decode jc_CO 6 = .ok (.aload_n 0, 1) := by decide +kernel
theorem jd_CO_7 : decode jc_CO 7 = .ok (.getfield 15, 3) := by decide +kernel
theorem jd_CO_10 : decode jc_CO 10 = .ok (.goto 4, 3) := by decide +kernel
theorem jd_CO_13 : decode jc_CO 13 = .ok (.iconst 1, 1) := by decide +kernel
theorem jd_CO_14 : decode jc_CO 14 = .ok (.ireturn, 1) := by decide +kernel
def jy_LE : MethodName := ⟨"java/lang/String", "length", "()I"⟩
abbrev jc_LE : ByteArray := prog_19_method_54_code
set_option maxRecDepth 20000 in
theorem jw_LE : Cond.code jy_LE jc_LE 1 (some .int) ∈ mj_GT := mj_t3 (i := 5) rfl rfl
set_option maxRecDepth 20000 in
theorem jk_LE : Cond.instanceMethod jy_LE ∈ mj_GT := mj_t3 (i := 3) rfl rfl
set_option maxRecDepth 20000 in
theorem js_LE : Cond.selects "java/lang/String" jy_LE jy_LE ∈ mj_GT := mj_t3 (i := 4) rfl rfl
theorem jd_LE_0 : decode jc_LE 0 = .ok (.aload_n 0, 1) := by decide +kernel
theorem jd_LE_1 : decode jc_LE 1 = .ok (.getfield 9, 3) := by decide +kernel
theorem jd_LE_4 : decode jc_LE 4 = .ok (.arraylength, 1) := by decide +kernel
theorem jd_LE_5 : decode jc_LE 5 = .ok (.aload_n 0, 1) := by decide +kernel
theorem jd_LE_6 : decode jc_LE 6 = .ok (.invokevirtual 335, 3) := by decide +kernel
theorem jd_LE_9 : decode jc_LE 9 = .ok (.ishr, 1) := by decide +kernel
theorem jd_LE_10 : decode jc_LE 10 = .ok (.ireturn, 1) := by decide +kernel
def jy_CA : MethodName := ⟨"java/lang/String", "charAt", "(I)C"⟩
abbrev jc_CA : ByteArray := prog_19_method_56_code
set_option maxRecDepth 20000 in
theorem jw_CA : Cond.code jy_CA jc_CA 2 (some .char) ∈ mj_GT := mj_t3 (i := 16) rfl rfl
set_option maxRecDepth 20000 in
theorem jk_CA : Cond.instanceMethod jy_CA ∈ mj_GT := mj_t3 (i := 14) rfl rfl
set_option maxRecDepth 20000 in
theorem js_CA : Cond.selects "java/lang/String" jy_CA jy_CA ∈ mj_GT := mj_t3 (i := 15) rfl rfl
theorem jd_CA_0 : decode jc_CA 0 = .ok (.aload_n 0, 1) := by decide +kernel
theorem jd_CA_1 : decode jc_CA 1 = .ok (.invokevirtual 492, 3) := by decide +kernel
theorem jd_CA_4 : decode jc_CA 4 = .ok (.ifCond .eq 12, 3) := by decide +kernel
theorem jd_CA_7 : decode jc_CA 7 = .ok (.aload_n 0, 1) := by decide +kernel
theorem jd_CA_8 : decode jc_CA 8 = .ok (.getfield 9, 3) := by decide +kernel
theorem jd_CA_11 : decode jc_CA 11 = .ok (.iload_n 1, 1) := by decide +kernel
theorem jd_CA_12 : decode jc_CA 12 = .ok (.invokestatic 495, 3) := by decide +kernel
theorem jd_CA_15 : decode jc_CA 15 = .ok (.ireturn, 1) := by decide +kernel
theorem jd_CA_16 : decode jc_CA 16 = .ok (.aload_n 0, 1) := by decide +kernel
theorem jd_CA_17 : decode jc_CA 17 = .ok (.getfield 9, 3) := by decide +kernel
theorem jd_CA_20 : decode jc_CA 20 = .ok (.iload_n 1, 1) := by decide +kernel
theorem jd_CA_21 : decode jc_CA 21 = .ok (.invokestatic 498, 3) := by decide +kernel
theorem jd_CA_24 : decode jc_CA 24 = .ok (.ireturn, 1) := by decide +kernel
set_option maxRecDepth 20000 in
theorem ji_S : Cond.initialized "java/lang/String" ∈ mj_GT := mj_t1 (i := 19) rfl rfl
set_option maxRecDepth 20000 in
theorem ji_L : Cond.initialized "java/lang/StringLatin1" ∈ mj_GT := mj_t1 (i := 20) rfl rfl
set_option maxRecDepth 20000 in
theorem ji_P : Cond.initialized "jdk/internal/util/Preconditions" ∈ mj_GT := mj_t1 (i := 21) rfl rfl
set_option maxRecDepth 20000 in
theorem jl_coder : Cond.methodLink "java/lang/String" 335 jy_CO ∈ mj_GT := mj_t3 (i := 6) rfl rfl
set_option maxRecDepth 20000 in
theorem jl_isL : Cond.methodLink "java/lang/String" 492 jy_IL ∈ mj_GT := mj_t3 (i := 17) rfl rfl
set_option maxRecDepth 20000 in
theorem jl_Lch : Cond.methodLink "java/lang/String" 495 jy_LC ∈ mj_GT := mj_t3 (i := 21) rfl rfl
set_option maxRecDepth 20000 in
theorem jl_chk : Cond.methodLink "java/lang/StringLatin1" 9 jy_SC ∈ mj_GT := mj_t3 (i := 24) rfl rfl
set_option maxRecDepth 20000 in
theorem jl_pre : Cond.methodLink "java/lang/String" 1059 jy_PC ∈ mj_GT := mj_t3 (i := 29) rfl rfl
set_option maxRecDepth 20000 in
theorem jf_cs : Cond.fieldLink "java/lang/String" 38 "java/lang/String" "COMPACT_STRINGS" "Z" ∈ mj_GT := mj_t3 (i := 10) rfl rfl
set_option maxRecDepth 20000 in
theorem jf_fm : Cond.fieldLink "java/lang/String" 1053 "jdk/internal/util/Preconditions" "SIOOBE_FORMATTER" "Ljava/util/function/BiFunction;" ∈ mj_GT := mj_t3 (i := 27) rfl rfl
set_option maxRecDepth 20000 in
theorem jf_va : Cond.fieldLink "java/lang/String" 9 "java/lang/String" "value" "[B" ∈ mj_GT := mj_t7 (i := 16) rfl rfl
set_option maxRecDepth 20000 in
theorem jf_co : Cond.fieldLink "java/lang/String" 15 "java/lang/String" "coder" "B" ∈ mj_GT := mj_t7 (i := 17) rfl rfl
def mj_slen : List Nat := mj_sc.map List.length
def mj_sbyt : List (List Int32) := mj_sc.map (fun l => l.map nI)
/-- the strings and the two statics that their methods read -/
def mj_SZ (A : Nat → Prop) (adK adV : Nat → Nat) (U : State) (H : Heap) : Prop := vk_S 13 mj_slen mj_sbyt adK adV A U H ∧ va_Z "java/lang/String" "COMPACT_STRINGS" "Z" (.int 1) A U H ∧ va_Zq "jdk/internal/util/Preconditions" "SIOOBE_FORMATTER" "Ljava/util/function/BiFunction;" A U H
theorem mj_SZ.to {A : Nat → Prop} {adK adV : Nat → Nat} {U U' : State} {H H' : Heap} (h : mj_SZ A adK adV U H) (hW : U.vm.Alike U'.vm) (hk : ∀ q : Nat, q < H.size → ¬ A q → H'[q]? = H[q]?) : mj_SZ A adK adV U' H' := ⟨vk_S.moved hW (h.1.kept hk), va_Z.moved hW (h.2.1.kept hk), va_Zq.moved hW (h.2.2.kept hk)⟩
theorem mj_zq {C n d : String} {A : Nat → Prop} {U : State} {H : Heap} (h : va_Zq C n d A U H) : ∃ f : Value, va_Z C n d f A U H ∧ (f = .null ∨ ∃ a, f = .ref a) := by
  rcases h with h | ⟨t, h⟩
  · exact ⟨.null, h, Or.inl rfl⟩
  · exact ⟨.ref t, h, Or.inr ⟨t, rfl⟩⟩
theorem mj_slen_ok : ∀ i, i < 13 → mj_slen.getD i 0 < 100 ∧ mj_slen.getD i 0 = (mj_sc.getD i []).length := by decide +kernel
theorem mj_sch_ok : ∀ i, i < 13 → ∀ k, k < mj_slen.getD i 0 → ((((mj_sbyt.getD i []).getD k 0) &&& 255).toUInt32 % 65536).toInt32 = nI ((mj_sc.getD i []).getD k 0) ∧ narrow .char (.int (nI ((mj_sc.getD i []).getD k 0))) = .int (nI ((mj_sc.getD i []).getD k 0)) := by decide +kernel
def mj_J (A : Nat → Prop) (adK adV : Nat → Nat) (aa : List Value) : Array Value → State → Prop := va_Pc aa (fun U => mj_SZ A adK adV U U.heap)
def mj_Jq (v : Option Value) : Array Value → State → Outcome → State → Prop := fun _ st oc t => oc = .returned v ∧ t.heap = st.heap
theorem mj_J_blind {A : Nat → Prop} {adK adV : Nat → Nat} {aa : List Value} : FrameBlind (mj_J A adK adV aa) := fun a U g mk h => ⟨h.1, h.2.to (U' := U.calling g mk a) (Vm.Alike.refl U.vm) (fun _ _ _ => rfl)⟩
section MJJ
variable {p : Program} {l : Launch} {e : Env} {R : Room} {s : State} {m : MethodId} {args : Array Value} {below : List Frame} {meth : Method} {c : Code} {H : Heap} {locs : List Loc} {cells slots : Nat} {Q : State → Prop}
variable {ls : Array Slot} {pc : Nat} {rest st0 : List Value} {A : Nat → Prop} {adK adV : Nat → Nat}
theorem mj_pure {a : Array Value} {v0 : Option Value} (hr : va_Run p l e R s m args below meth c H locs cells slots 0 0 (F0 m pc ls st0) rest (mj_Jq v0 a) (fun _ => False)) (kk : W p l e R s m args below meth c H locs cells slots Q (F0 m (pc + 3) ls (v0.toList ++ rest))) : W p l e R s m args below meth c H locs cells slots Q (F0 m pc ls st0) := by
  intro T hT X
  obtain ⟨v', st₀, t, T', L, h0, X', hL, e1, e2, ⟨hv, hh⟩, st⟩ := hr T hT X
  cases hv
  cases L with
  | cons q L => exact (hL q List.mem_cons_self).elim
  | nil =>
    rw [List.append_nil] at X'
    obtain ⟨t2, a1, b1⟩ := kk T' (e1.trans (hh.trans h0)) X'
    exact ⟨t2, st t2 a1, b1⟩
/-- what a body of these is in -/
def mj_JC (own : String) (cc : ByteArray) (maxL : Nat) (ret : Option FieldType) (p : Program) (s : State) (m : MethodId) (args : Array Value) (meth : Method) (c : Code) : Prop := p.tables.exec = Jvm.exec ∧ c.code = cc ∧ meth.sig.returnType = ret ∧ c.maxLocals = maxL ∧ s.vm.findClass own = some m.cls ∧ (∀ w ∈ mj_GT, w.before args s = true) ∧ meth.locks = false
theorem mj_jmet {y : MethodName} {cc : ByteArray} {maxL d : Nat} {ret : Option FieldType} {aa : List Value} {v : Option Value} (hy : plainName y.cls = true) (hlen : (lg_sl aa).length ≤ maxL)
    (body : ∀ (p : Program) (e : Env) (s : State) (m : MethodId) (below : List Frame) (meth : Method) (c : Code) (ls : Array Slot), mj_JC y.cls cc maxL ret p s m aa.toArray meth c → mj_SZ A adK adV s s.heap → lv_has ls maxL (lv_args 0 aa) → W p l e (mj_rm d 0 0) s m aa.toArray below meth c s.heap [] 0 0 (MQ below (mj_Jq v) aa.toArray s 0 0 (fun _ => False)) (F0 m 0 ls [])) :
    Met l y (.code y cc maxL ret :: mj_GT) (mj_rm d 0 0) (mj_J A adK adV aa) (mj_Jq v) 0 0 (fun _ => False) := by
  refine Met.ofW (cc := cc) (maxL := maxL) (ret := ret) hy rfl ?_
  intro p e s m args below meth c s₁ B hml hv
  obtain ⟨rfl, hsz⟩ := hv
  have hts := atoms_spec (ws := Cond.code y cc maxL ret :: mj_GT) B.pre
  have hl := lv_entry aa (n := maxL) hlen
  rw [lg_entry_eq]
  generalize (lg_sl aa ++ List.replicate (maxL - (lg_sl aa).length) Slot.unset).toArray = ls at hl ⊢
  exact body p e s m below meth c ls ⟨B.exec, B.bytes, B.returns, hml, findClass_of_methodNamed B.named, fun w hw => hts w (List.mem_cons_of_mem _ hw), B.notSynchronized⟩ hsz hl
theorem mj_jws {args : Array Value} {s : State} (hts : ∀ w ∈ mj_GT, w.before args s = true) {w0 : Cond} (hcd : w0 ∈ mj_GT) : ∀ w ∈ w0 :: mj_GT, ∀ (a' : Array Value) (U : State), s.WarmedH U.vm → w.before a' U = true := by
  intro w hw a' U hW
  have hm : w ∈ mj_GT := (List.mem_cons.mp hw).elim (fun h => h ▸ hcd) id
  exact word_at hW (good_of_word (List.mem_filter.mp hm).2) (hts w hm)
/-- a call of one of these, static -/
theorem mj_jS {own : String} {cc cc1 : ByteArray} {maxL maxL1 d0 j n : Nat} {ret ret1 : Option FieldType} {y : MethodName} {aa : List Value} {v : Option Value} (hC : mj_JC own cc maxL ret p s m args meth c) (hSZ : mj_SZ A adK adV s s.heap) (hS : va_S A s.heap H locs) (hM : Met l y (.code y cc1 maxL1 ret1 :: mj_GT) (mj_rm d0 0 0) (mj_J A adK adV aa) (mj_Jq v) 0 0 (fun _ => False)) (hw : Cond.code y cc1 maxL1 ret1 ∈ mj_GT) (hi : Cond.initialized y.cls ∈ mj_GT) (hl : Cond.methodLink own j y ∈ mj_GT) (hst : Cond.static y ∈ mj_GT) (hpl : mj_plain y n = true) (hn : aa.length = n) (hls : ls.size = maxL) (hsk : st0 = aa.reverse ++ rest) (hr8 : (rest.map fun v => v.category).sum ≤ 8) (hd : decode cc pc = .ok (.invokestatic j, 3)) (hf : d0 + 1 ≤ R.frames) (hlo : 8 + (maxL1 + 11) + d0 * 64 ≤ R.locals) (hc : cells ≤ R.cells) (hs : slots ≤ R.slots)
    (kk : W p l e R s m args below meth c H locs cells slots Q (F0 m (pc + 3) ls (v.toList ++ rest))) : W p l e R s m args below meth c H locs cells slots Q (F0 m pc ls st0) := by
  obtain ⟨hx, hb, hr, hml, hown, hts, hlk⟩ := hC
  have hpu := mj_plain_use hpl
  have hPre : PreS s H (mj_J A adK adV aa) aa := ⟨mj_J_blind, fun U hU hW => ⟨rfl, by show mj_SZ A adK adV U U.heap; rw [hU]; exact hSZ.to hW.alike (fun q h1 h2 => hS.2.1 q h1 h2)⟩⟩
  exact mj_pure (va_runS (nL := maxL) (Ts := mj_GT) ⟨hx, hb, hml, hown, hts⟩ hM ⟨⟨rfl, rfl, hf, hlo, mj_jws hts hw, List.mem_cons_self, hts _ hw, hts _ hi, ⟨hpu.1, hpu.2.1⟩, fun sig h => by have h2 := hpu.2.2; rw [h] at h2; exact (Option.some.inj h2).symm, hts _ hl⟩, hts _ hst⟩ hPre rfl hn hls hsk (lv_room hr8) hd ⟨hc, hs⟩) kk
/-- .. virtual, on the i-th string -/
theorem mj_jV {own : String} {cc cc1 : ByteArray} {maxL maxL1 d0 j n i : Nat} {ret ret1 : Option FieldType} {y : MethodName} {aa : List Value} {v : Option Value} (hC : mj_JC own cc maxL ret p s m args meth c) (hSZ : mj_SZ A adK adV s s.heap) (hS : va_S A s.heap H locs) (hM : Met l y (.code y cc1 maxL1 ret1 :: mj_GT) (mj_rm d0 0 0) (mj_J A adK adV (.ref (adK i) :: aa)) (mj_Jq v) 0 0 (fun _ => False)) (hi13 : i < 13) (hyc : y.cls = "java/lang/String") (hw : Cond.code y cc1 maxL1 ret1 ∈ mj_GT) (hi : Cond.initialized y.cls ∈ mj_GT) (hl : Cond.methodLink own j y ∈ mj_GT) (hst : Cond.instanceMethod y ∈ mj_GT) (hse : Cond.selects y.cls y y ∈ mj_GT) (hpl : mj_plain y n = true) (hn : aa.length = n) (hls : ls.size = maxL) (hsk : st0 = aa.reverse ++ .ref (adK i) :: rest) (hr8 : (rest.map fun v => v.category).sum ≤ 8) (hd : decode cc pc = .ok (.invokevirtual j, 3)) (hf : d0 + 1 ≤ R.frames) (hlo : 8 + (maxL1 + 11) + d0 * 64 ≤ R.locals) (hc : cells ≤ R.cells) (hs : slots ≤ R.slots)
    (kk : W p l e R s m args below meth c H locs cells slots Q (F0 m (pc + 3) ls (v.toList ++ rest))) : W p l e R s m args below meth c H locs cells slots Q (F0 m pc ls st0) := by
  obtain ⟨hx, hb, hr, hml, hown, hts, hlk⟩ := hC
  have hpu := mj_plain_use hpl
  have hPre : PreV s H y.cls (adK i) (mj_J A adK adV (.ref (adK i) :: aa)) aa := ⟨mj_J_blind, by rw [hyc]; exact vk_recv hSZ.1 hi13 hS, fun U hU hW => ⟨rfl, by show mj_SZ A adK adV U U.heap; rw [hU]; exact hSZ.to hW.alike (fun q h1 h2 => hS.2.1 q h1 h2)⟩⟩
  exact mj_pure (va_runV (nL := maxL) (Ts := mj_GT) ⟨hx, hb, hml, hown, hts⟩ hM ⟨⟨rfl, rfl, hf, hlo, mj_jws hts hw, List.mem_cons_self, hts _ hw, hts _ hi, ⟨hpu.1, hpu.2.1⟩, fun sig h => by have h2 := hpu.2.2; rw [h] at h2; exact (Option.some.inj h2).symm, hts _ hl⟩, hts _ hst, hts _ hse⟩ hPre rfl hn hls hsk (lv_room hr8) hd ⟨hc, hs⟩) kk
/-- Preconditions.checkIndex, in range -/
theorem jm_PC {l : Launch} {k n : Nat} {f : Value} (hk : k < n) (hn : n < 2 ^ 31) (hf : f = .null ∨ ∃ a, f = .ref a) : Met l jy_PC (.code jy_PC jc_PC 3 (some .int) :: mj_GT) (mj_rm 0 0 0) (mj_J A adK adV [.int (nI k), .int (nI n), f]) (mj_Jq (some (.int (nI k)))) 0 0 (fun _ => False) := by
  have hlf : (lg_sl [.int (nI k), .int (nI n), f]).length ≤ 3 := by rcases hf with rfl | ⟨a, rfl⟩ <;> exact Nat.le_refl 3
  refine mj_jmet (by decide +kernel) hlf fun p e s m below meth c ls hC hSZ hl => ?_
  obtain ⟨hx, hb, hr, hml, hown, hts, hlk⟩ := hC
  have g0 : ls[0]? = some (.val (.int (nI k))) := hl.2.2 (0, .int (nI k)) List.mem_cons_self
  have g1 : ls[1]? = some (.val (.int (nI n))) := hl.2.2 (1, .int (nI n)) (List.mem_cons_of_mem _ List.mem_cons_self)
  refine lv_iload_n hx hb jd_PC_0 rfl g0 ?_
  refine lv_if_lt (tgt := 9) hx hb jd_PC_1 (by decide) (fun q => absurd q (nI_pos (by omega))) (fun _ => ?_)
  refine lv_iload_n hx hb jd_PC_4 rfl g0 ?_
  refine lv_iload_n hx hb jd_PC_5 rfl g1 ?_
  refine lv_icmp_lt (tgt := 16) hx hb jd_PC_6 (by decide) (fun _ => ?_) (fun q => absurd (nI_lt hk hn) q)
  refine lv_iload_n hx hb jd_PC_16 rfl g0 ?_
  exact W.iret hx hb hr (fun t ht _ => ⟨rfl, ht⟩) (fun q hq => by cases hq) jd_PC_17 hlk
theorem jm_SC {l : Launch} {k n : Nat} (hk : k < n) (hn : n < 2 ^ 31) : Met l jy_SC (.code jy_SC jc_SC 2 none :: mj_GT) (mj_rm 1 0 0) (mj_J A adK adV [.int (nI k), .int (nI n)]) (mj_Jq none) 0 0 (fun _ => False) := by
  refine mj_jmet (by decide +kernel) (Nat.le_refl 2) fun p e s m below meth c ls hC hSZ hl => ?_
  have hC' := hC
  obtain ⟨hx, hb, hr, hml, hown, hts, hlk⟩ := hC
  have g0 : ls[0]? = some (.val (.int (nI k))) := hl.2.2 (0, .int (nI k)) List.mem_cons_self
  have g1 : ls[1]? = some (.val (.int (nI n))) := hl.2.2 (1, .int (nI n)) (List.mem_cons_of_mem _ List.mem_cons_self)
  refine lv_iload_n hx hb jd_SC_0 rfl g0 ?_
  refine lv_iload_n hx hb jd_SC_1 rfl g1 ?_
  obtain ⟨f, hfz, hf⟩ := mj_zq hSZ.2.2
  refine va_gets (A := A) hx hb hfz va_S.rf hown (hts _ jf_fm) (fun _ h9 => h9) jd_SC_2 ?_
  refine mj_jS (d0 := 0) hC' hSZ va_S.rf (jm_PC (A := A) (adK := adK) (adV := adV) hk hn hf) jw_PC ji_P jl_pre jk_PC (n := 3) (by decide +kernel) rfl hl.1 (rest := []) rfl (Nat.zero_le _) jd_SC_5 (Nat.le_refl _) (by decide) (Nat.le_refl _) (Nat.le_refl _) ?_
  refine lv_pop hx hb jd_SC_8 rfl ?_
  exact W.vret hx hb hr (fun t ht _ => ⟨rfl, ht⟩) (fun q hq => by cases hq) jd_SC_9 hlk
theorem jm_CO {l : Launch} {i : Nat} (hi : i < 13) : Met l jy_CO (.code jy_CO jc_CO 1 (some .byte) :: mj_GT) (mj_rm 0 0 0) (mj_J A adK adV [.ref (adK i)]) (mj_Jq (some (.int 0))) 0 0 (fun _ => False) := by
  refine mj_jmet (by decide +kernel) (Nat.le_refl 1) fun p e s m below meth c ls hC hSZ hl => ?_
  obtain ⟨hx, hb, hr, hml, hown, hts, hlk⟩ := hC
  have g0 : ls[0]? = some (.val (.ref (adK i))) := hl.2.2 (0, .ref (adK i)) List.mem_cons_self
  refine va_gets (A := A) hx hb hSZ.2.1 va_S.rf hown (hts _ jf_cs) (fun _ h9 => h9) jd_CO_0 ?_
  refine lv_if_eq (tgt := 13) hx hb jd_CO_3 (by decide) (fun q => absurd q (by decide)) (fun _ => ?_)
  refine lv_aload_n hx hb jd_CO_6 rfl g0 ?_
  refine vk_getf (A := A) hx hb (hSZ.1.1 i hi).2.1 va_S.rf hown (hts _ jf_co) (fun _ h9 => h9) jd_CO_7 ?_
  refine lv_goto (tgt := 14) hx hb jd_CO_10 (by decide) ?_
  exact W.zret hx hb hr (by decide +kernel) (fun t ht _ => ⟨rfl, ht⟩) (fun q hq => by cases hq) jd_CO_14 hlk
theorem jm_IL {l : Launch} {i : Nat} (hi : i < 13) : Met l jy_IL (.code jy_IL jc_IL 1 (some .boolean) :: mj_GT) (mj_rm 0 0 0) (mj_J A adK adV [.ref (adK i)]) (mj_Jq (some (.int 1))) 0 0 (fun _ => False) := by
  refine mj_jmet (by decide +kernel) (Nat.le_refl 1) fun p e s m below meth c ls hC hSZ hl => ?_
  obtain ⟨hx, hb, hr, hml, hown, hts, hlk⟩ := hC
  have g0 : ls[0]? = some (.val (.ref (adK i))) := hl.2.2 (0, .ref (adK i)) List.mem_cons_self
  refine va_gets (A := A) hx hb hSZ.2.1 va_S.rf hown (hts _ jf_cs) (fun _ h9 => h9) jd_IL_0 ?_
  refine lv_if_eq (tgt := 17) hx hb jd_IL_3 (by decide) (fun q => absurd q (by decide)) (fun _ => ?_)
  refine lv_aload_n hx hb jd_IL_6 rfl g0 ?_
  refine vk_getf (A := A) hx hb (hSZ.1.1 i hi).2.1 va_S.rf hown (hts _ jf_co) (fun _ h9 => h9) jd_IL_7 ?_
  refine lv_if_ne (tgt := 17) hx hb jd_IL_10 (by decide) (fun q => absurd rfl q) (fun _ => ?_)
  refine lv_iconst (v := 1) hx hb jd_IL_13 (by decide) ?_
  refine lv_goto (tgt := 18) hx hb jd_IL_14 (by decide) ?_
  exact W.zret hx hb hr (by decide +kernel) (fun t ht _ => ⟨rfl, ht⟩) (fun q hq => by cases hq) jd_IL_18 hlk
theorem jm_LE {l : Launch} {i : Nat} (hi : i < 13) : Met l jy_LE (.code jy_LE jc_LE 1 (some .int) :: mj_GT) (mj_rm 1 0 0) (mj_J A adK adV [.ref (adK i)]) (mj_Jq (some (.int (nI (mj_sc.getD i []).length)))) 0 0 (fun _ => False) := by
  refine mj_jmet (by decide +kernel) (Nat.le_refl 1) fun p e s m below meth c ls hC hSZ hl => ?_
  have hC' := hC
  obtain ⟨hx, hb, hr, hml, hown, hts, hlk⟩ := hC
  have g0 : ls[0]? = some (.val (.ref (adK i))) := hl.2.2 (0, .ref (adK i)) List.mem_cons_self
  obtain ⟨n1, n2⟩ := mj_slen_ok i hi
  refine lv_aload_n hx hb jd_LE_0 rfl g0 ?_
  refine vk_getf (A := A) hx hb (hSZ.1.1 i hi).2.2.1 va_S.rf hown (hts _ jf_va) (fun _ h9 => h9) jd_LE_1 ?_
  refine va_tlen (A := A) hx hb (hSZ.1.1 i hi).2.2.2 va_S.rf rfl jd_LE_4 ?_
  refine lv_aload_n hx hb jd_LE_5 rfl g0 ?_
  refine mj_jV (d0 := 0) (aa := []) hC' hSZ va_S.rf (jm_CO (A := A) (adK := adK) (adV := adV) hi) hi rfl jw_CO ji_S jl_coder jk_CO js_CO (n := 0) (by decide +kernel) rfl hl.1 rfl (Nat.le_of_ble_eq_true rfl) jd_LE_6 (Nat.le_refl _) (by decide) (Nat.le_refl _) (Nat.le_refl _) ?_
  refine lv_ishr hx hb jd_LE_9 ?_
  have e1 : Int32.ofNat (mj_slen.getD i 0) >>> ((0 : Int32) &&& 31) = nI (mj_sc.getD i []).length := by
    rw [← n2]
    exact sc_shr0 (n := mj_slen.getD i 0) (by omega)
  rw [e1]
  exact W.iret hx hb hr (fun t ht _ => ⟨rfl, ht⟩) (fun q hq => by cases hq) jd_LE_10 hlk
theorem jm_LC {l : Launch} {i k : Nat} (hi : i < 13) (hk : k < mj_slen.getD i 0) : Met l jy_LC (.code jy_LC jc_LC 2 (some .char) :: mj_GT) (mj_rm 2 0 0) (mj_J A adK adV [.ref (adV i), .int (nI k)]) (mj_Jq (some (.int (nI ((mj_sc.getD i []).getD k 0))))) 0 0 (fun _ => False) := by
  refine mj_jmet (by decide +kernel) (Nat.le_refl 2) fun p e s m below meth c ls hC hSZ hl => ?_
  have hC' := hC
  obtain ⟨hx, hb, hr, hml, hown, hts, hlk⟩ := hC
  have g0 : ls[0]? = some (.val (.ref (adV i))) := hl.2.2 (0, .ref (adV i)) List.mem_cons_self
  have g1 : ls[1]? = some (.val (.int (nI k))) := hl.2.2 (1, .int (nI k)) (List.mem_cons_of_mem _ List.mem_cons_self)
  obtain ⟨n1, n2⟩ := mj_slen_ok i hi
  obtain ⟨c1, c2⟩ := mj_sch_ok i hi k hk
  refine lv_iload_n hx hb jd_LC_0 rfl g1 ?_
  refine lv_aload_n hx hb jd_LC_1 rfl g0 ?_
  refine va_tlen (A := A) hx hb (hSZ.1.1 i hi).2.2.2 va_S.rf rfl jd_LC_2 ?_
  refine mj_jS (d0 := 1) hC' hSZ va_S.rf (jm_SC (A := A) (adK := adK) (adV := adV) hk (by omega)) jw_SC ji_S jl_chk jk_SC (n := 2) (by decide +kernel) rfl hl.1 (rest := []) rfl (Nat.zero_le _) jd_LC_3 (Nat.le_refl _) (by decide) (Nat.le_refl _) (Nat.le_refl _) ?_
  refine lv_aload_n hx hb jd_LC_6 rfl g0 ?_
  refine lv_iload_n hx hb jd_LC_7 rfl g1 ?_
  refine va_tb (A := A) hx hb (hSZ.1.1 i hi).2.2.2 va_S.rf (vp_in_nI hk (by omega)) rfl jd_LC_8 ?_
  rw [nI_clamp (by omega)]
  refine lv_sipush (v := 255) hx hb jd_LC_9 (by decide +kernel) ?_
  refine lv_iand hx hb jd_LC_12 ?_
  refine lv_i2c hx hb jd_LC_13 c1 ?_
  exact W.zret hx hb hr c2 (fun t ht _ => ⟨rfl, ht⟩) (fun q hq => by cases hq) jd_LC_14 hlk
theorem jm_CA {l : Launch} {i k : Nat} (hi : i < 13) (hk : k < mj_slen.getD i 0) : Met l jy_CA (.code jy_CA jc_CA 2 (some .char) :: mj_GT) (mj_rm 3 0 0) (mj_J A adK adV [.ref (adK i), .int (nI k)]) (mj_Jq (some (.int (nI ((mj_sc.getD i []).getD k 0))))) 0 0 (fun _ => False) := by
  refine mj_jmet (by decide +kernel) (Nat.le_refl 2) fun p e s m below meth c ls hC hSZ hl => ?_
  have hC' := hC
  obtain ⟨hx, hb, hr, hml, hown, hts, hlk⟩ := hC
  have g0 : ls[0]? = some (.val (.ref (adK i))) := hl.2.2 (0, .ref (adK i)) List.mem_cons_self
  have g1 : ls[1]? = some (.val (.int (nI k))) := hl.2.2 (1, .int (nI k)) (List.mem_cons_of_mem _ List.mem_cons_self)
  obtain ⟨c1, c2⟩ := mj_sch_ok i hi k hk
  refine lv_aload_n hx hb jd_CA_0 rfl g0 ?_
  refine mj_jV (d0 := 0) (aa := []) hC' hSZ va_S.rf (jm_IL (A := A) (adK := adK) (adV := adV) hi) hi rfl jw_IL ji_S jl_isL jk_IL js_IL (n := 0) (by decide +kernel) rfl hl.1 (rest := []) rfl (Nat.zero_le _) jd_CA_1 (Nat.le_of_ble_eq_true rfl) (by decide) (Nat.le_refl _) (Nat.le_refl _) ?_
  refine lv_if_eq (tgt := 16) hx hb jd_CA_4 (by decide) (fun q => absurd q (by decide)) (fun _ => ?_)
  refine lv_aload_n hx hb jd_CA_7 rfl g0 ?_
  refine vk_getf (A := A) hx hb (hSZ.1.1 i hi).2.2.1 va_S.rf hown (hts _ jf_va) (fun _ h9 => h9) jd_CA_8 ?_
  refine lv_iload_n hx hb jd_CA_11 rfl g1 ?_
  refine mj_jS (d0 := 2) hC' hSZ va_S.rf (jm_LC (A := A) (adK := adK) (adV := adV) hi hk) jw_LC ji_L jl_Lch jk_LC (n := 2) (by decide +kernel) rfl hl.1 (rest := []) rfl (Nat.zero_le _) jd_CA_12 (Nat.le_refl _) (by decide) (Nat.le_refl _) (Nat.le_refl _) ?_
  exact W.zret hx hb hr c2 (fun t ht _ => ⟨rfl, ht⟩) (fun q hq => by cases hq) jd_CA_15 hlk
end MJJ
theorem mj_in_nI {i : Int32} {n : Nat} (h : mj_in i n = true) (hn : n < 2 ^ 31) : ∃ k, k < n ∧ i = nI k ∧ i.toNatClampNeg = k := by
  obtain ⟨k, hk, rfl⟩ := vp_in_of (mj_in_vp h) hn
  exact ⟨k, hk, rfl, nI_clamp (by omega)⟩
def mj_ZS (Z : State → Heap → Prop) (G : mj_G) (rho0 adV : Nat → Nat) : Prop := ∀ (U : State) (H : Heap), Z U H → mj_SZ (mj_A G) (fun j => rho0 (2000 + j)) adV U H
set_option maxRecDepth 100000 in
theorem mj_str_law {Z : State → Heap → Prop} {G : mj_G} {rho0 adV : Nat → Nat} (hZ : mj_ZS Z G rho0 adV) : mj_StrLaw Z G rho0 := by
  intro k i x y E X p l e R s m args below meth c Q rho H locs ls cells slots hX hdec hlink ha hy hsm h5 h384 hcc hss hC hE hI r0 hS hlv kk
  have hSZ := hZ s s.heap hE.2.2.2.2.2
  obtain ⟨hx, hb, hr, hml, hown, hts, hlk, hnm, hxt⟩ := hC
  have hJ : mj_JC (mj_cn X.2.2.2.2.1) X.2.1 X.2.2.1 X.2.2.2.1 p s m args meth c := ⟨hx, hb, hr, hml, hown, hts, hlk⟩
  obtain ⟨pc, lv, st, M⟩ := x
  obtain ⟨ii, len, a, b, v, tl⟩ := E
  simp only at ha hlink
  rcases ha with rfl | rfl
  · rcases st with _ | ⟨x1, st⟩
    · cases hy
    · cases x1 <;> (try (cases hy; done))
      rename_i r
      have hy' : (match mj_sc[r - 2000]? with | some s => bif Nat.ble 2000 r then some (pc + 3, lv, Value.int (nI s.length) :: st, M) else none | none => none) = some y := hy
      clear hy
      cases hq : mj_sc[r - 2000]? with
      | none => rw [hq] at hy'; cases hy'
      | some sc =>
        rw [hq] at hy'
        cases hb2 : Nat.ble 2000 r with
        | false => simp only [hb2] at hy'; cases hy'
        | true =>
          simp only [hb2, cond_true] at hy'
          cases hy'
          have hr2 : 2000 + (r - 2000) = r := Nat.add_sub_cancel' (Nat.le_of_ble_eq_true hb2)
          have hi13 : r - 2000 < 13 := (List.getElem?_eq_some_iff.mp hq).1
          have hsc : mj_sc.getD (r - 2000) [] = sc := by rw [List.getD_eq_getElem?_getD, hq]; rfl
          have hrho : rho r = rho0 (2000 + (r - 2000)) := by rw [hr2]; exact r0 r (Nat.le_of_ble_eq_true hb2) (by intro h9; subst h9; exact absurd hi13 (by decide))
          have hst0 : mj_sm rho (.ref r :: st) = ([] : List Value).reverse ++ .ref ((fun j => rho0 (2000 + j)) (r - 2000)) :: mj_sm rho st := by
            show Value.ref (rho r) :: mj_sm rho st = _
            rw [hrho]
            rfl
          have hs8 : 1 + (st.map fun v => v.category).sum < 9 := hsm
          refine mj_jV (d0 := 1) (aa := []) (y := jy_LE) hJ hSZ hS (jm_LE (A := mj_A G) (adK := fun j => rho0 (2000 + j)) (adV := adV) hi13) hi13 rfl jw_LE ji_S hlink jk_LE js_LE (n := 0) (by decide +kernel) rfl hlv.1 hst0 (by rw [mj_sm_cat]; omega) hdec (by omega) (by omega) hcc hss ?_
          have h9 := kk H locs hI hS
          rw [hsc]
          exact h9
  · rcases st with _ | ⟨x1, _ | ⟨x2, st⟩⟩
    · cases hy
    · cases x1 <;> cases hy
    · cases x1 <;> (try (cases hy; done)) <;> cases x2 <;> (try (cases hy; done))
      rename_i z r
      have hy' : (match mj_sc[r - 2000]? with | some s => bif Nat.ble 2000 r && mj_in z s.length then some (pc + 3, lv, Value.int (nI (s.getD z.toNatClampNeg 0)) :: st, M) else none | none => none) = some y := hy
      clear hy
      cases hq : mj_sc[r - 2000]? with
      | none => rw [hq] at hy'; cases hy'
      | some sc =>
        rw [hq] at hy'
        cases hb3 : (Nat.ble 2000 r && mj_in z sc.length) with
        | false => simp only [hb3] at hy'; cases hy'
        | true =>
          simp only [hb3, cond_true] at hy'
          cases hy'
          rw [Bool.and_eq_true] at hb3
          obtain ⟨hb2, hin⟩ := hb3
          have hr2 : 2000 + (r - 2000) = r := Nat.add_sub_cancel' (Nat.le_of_ble_eq_true hb2)
          have hi13 : r - 2000 < 13 := (List.getElem?_eq_some_iff.mp hq).1
          have hsc : mj_sc.getD (r - 2000) [] = sc := by rw [List.getD_eq_getElem?_getD, hq]; rfl
          obtain ⟨n1, n2⟩ := mj_slen_ok (r - 2000) hi13
          rw [hsc] at n2
          obtain ⟨k9, hk9, rfl, hcl⟩ := mj_in_nI hin (by omega)
          have hrho : rho r = rho0 (2000 + (r - 2000)) := by rw [hr2]; exact r0 r (Nat.le_of_ble_eq_true hb2) (by intro h9; subst h9; exact absurd hi13 (by decide))
          have hst0 : mj_sm rho (.int (nI k9) :: .ref r :: st) = ([.int (nI k9)] : List Value).reverse ++ .ref ((fun j => rho0 (2000 + j)) (r - 2000)) :: mj_sm rho st := by
            show Value.int (nI k9) :: Value.ref (rho r) :: mj_sm rho st = _
            rw [hrho]
            rfl
          have hs8 : 1 + (1 + (st.map fun v => v.category).sum) < 9 := hsm
          refine mj_jV (d0 := 3) (aa := [.int (nI k9)]) (y := jy_CA) hJ hSZ hS (jm_CA (A := mj_A G) (adK := fun j => rho0 (2000 + j)) (adV := adV) hi13 (by omega)) hi13 rfl jw_CA ji_S hlink jk_CA js_CA (n := 1) (by decide +kernel) rfl hlv.1 hst0 (by rw [mj_sm_cat]; omega) hdec (by omega) (by omega) hcc hss ?_
          have h9 := kk H locs hI hS
          rw [hsc]
          simp only [hcl] at h9
          exact h9
