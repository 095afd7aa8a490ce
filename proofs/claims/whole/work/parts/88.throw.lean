def mj_nm : List String := ["java/lang/RuntimeException", "java/lang/Exception"]
def mj_bw : Cond → Bool
  | .castable .. => true
  | .declares _ => true
  | _ => false
/-- throws: (own class, pool number of the class, of its constructor, which) -/
def mj_cb : List (Nat × Nat × Nat × Nat) := [(0, 147, 149, 2), (5, 114, 116, 0), (6, 27, 29, 2), (10, 60, 62, 0), (10, 66, 68, 1)]
set_option maxRecDepth 100000 in
theorem mj_tw0 : (vx_at0 (mj_cn 0) 149 (mj_en 2) mj_nm).all (fun w => decide (w ∈ lw_tbl) && (goodWord w || mj_bw w)) = true := by decide +kernel
set_option maxRecDepth 20000 in
theorem mj_tk0 : Cond.classLink (mj_cn 0) 147 (mj_en 2) ∈ mj_GT := mj_t4 (i := 67) rfl rfl
set_option maxRecDepth 100000 in
theorem mj_tw1 : (vx_at0 (mj_cn 5) 116 (mj_en 0) mj_nm).all (fun w => decide (w ∈ lw_tbl) && (goodWord w || mj_bw w)) = true := by decide +kernel
set_option maxRecDepth 20000 in
theorem mj_tk1 : Cond.classLink (mj_cn 5) 114 (mj_en 0) ∈ mj_GT := mj_t3 (i := 113) rfl rfl
set_option maxRecDepth 100000 in
theorem mj_tw2 : (vx_at0 (mj_cn 6) 29 (mj_en 2) mj_nm).all (fun w => decide (w ∈ lw_tbl) && (goodWord w || mj_bw w)) = true := by decide +kernel
set_option maxRecDepth 20000 in
theorem mj_tk2 : Cond.classLink (mj_cn 6) 27 (mj_en 2) ∈ mj_GT := mj_t3 (i := 209) rfl rfl
set_option maxRecDepth 100000 in
theorem mj_tw3 : (vx_at0 (mj_cn 10) 62 (mj_en 0) mj_nm).all (fun w => decide (w ∈ lw_tbl) && (goodWord w || mj_bw w)) = true := by decide +kernel
set_option maxRecDepth 20000 in
theorem mj_tk3 : Cond.classLink (mj_cn 10) 60 (mj_en 0) ∈ mj_GT := mj_t2 (i := 116) rfl rfl
set_option maxRecDepth 100000 in
theorem mj_tw4 : (vx_at0 (mj_cn 10) 68 (mj_en 1) mj_nm).all (fun w => decide (w ∈ lw_tbl) && (goodWord w || mj_bw w)) = true := by decide +kernel
set_option maxRecDepth 20000 in
theorem mj_tk4 : Cond.classLink (mj_cn 10) 66 (mj_en 1) ∈ mj_GT := mj_t2 (i := 183) rfl rfl
set_option maxRecDepth 20000 in
theorem mj_ti0 : Cond.initialized (mj_en 0) ∈ mj_GT := mj_t1 (i := 17) rfl rfl
set_option maxRecDepth 20000 in
theorem mj_ti1 : Cond.initialized (mj_en 1) ∈ mj_GT := mj_t1 (i := 18) rfl rfl
set_option maxRecDepth 20000 in
theorem mj_ti2 : Cond.initialized (mj_en 2) ∈ mj_GT := mj_t1 (i := 23) rfl rfl
def mj_tf (c : Nat × Nat × Nat × Nat) : Prop := (vx_at0 (mj_cn c.1) c.2.2.1 (mj_en c.2.2.2) mj_nm).all (fun w => decide (w ∈ lw_tbl) && (goodWord w || mj_bw w)) = true ∧ Cond.classLink (mj_cn c.1) c.2.1 (mj_en c.2.2.2) ∈ mj_GT ∧ Cond.initialized (mj_en c.2.2.2) ∈ mj_GT ∧ Bundle.fit (mj_en c.2.2.2) = true
theorem mj_tf_all : ∀ c ∈ mj_cb, mj_tf c := List.forall_mem_cons.mpr ⟨⟨mj_tw0, mj_tk0, mj_ti2, by decide +kernel⟩, List.forall_mem_cons.mpr ⟨⟨mj_tw1, mj_tk1, mj_ti0, by decide +kernel⟩, List.forall_mem_cons.mpr ⟨⟨mj_tw2, mj_tk2, mj_ti2, by decide +kernel⟩, List.forall_mem_cons.mpr ⟨⟨mj_tw3, mj_tk3, mj_ti0, by decide +kernel⟩, List.forall_mem_cons.mpr ⟨⟨mj_tw4, mj_tk4, mj_ti1, by decide +kernel⟩, fun _ h => absurd h List.not_mem_nil⟩⟩⟩⟩⟩
def mj_tho (X : mj_X) (pc : Nat) (e : mj_E) : Bool := match e.1 with
  | .new j => Nat.blt e.2.2.1 100 || mj_cb.any (fun c => Nat.beq X.2.2.2.2.1 c.1 && (Nat.beq j c.2.1 && (Nat.beq e.2.2.1 (100 + c.2.2.2) && (decide (decode X.2.1 (pc + 3) = .ok (.dup, 1)) && (decide (decode X.2.1 (pc + 4) = .ok (.invokespecial c.2.2.1, 3)) && decide (decode X.2.1 (pc + 7) = .ok (.athrow, 1)))))))
  | _ => true
set_option maxRecDepth 100000 in
theorem mj_tho_all : (List.range 204).all (fun k => match mj_mt k with | some X => (mj_code k).all (fun c => c.all (fun q => mj_tho X q.1 q.2)) | none => true) = true := by decide +kernel
theorem mj_tho_at {k pc : Nat} {e : mj_E} {X : mj_X} (hX : mj_mt k = some X) (h : mj_at k pc = some e) : mj_tho X pc e = true := by
  have hc := List.all_eq_true.mp mj_tho_all k (List.mem_range.mpr (mj_mt_lt hX))
  rw [hX] at hc
  unfold mj_at at h
  cases hf : ((mj_code k).getD (pc / 64) []).find? (fun q => Nat.beq q.1 pc) with
  | none => rw [hf] at h; cases h
  | some q =>
    rw [hf] at h
    cases h
    have h1 : Nat.beq q.1 pc = true := List.find?_some (p := fun q : Nat × mj_E => Nat.beq q.1 pc) hf
    have h3 : q.1 = pc := Nat.eq_of_beq_eq_true h1
    have h2 := List.mem_of_find?_eq_some hf
    rw [List.getD_eq_getElem?_getD] at h2
    cases hg : (mj_code k)[pc / 64]? with
    | none => rw [hg] at h2; cases h2
    | some ch =>
      rw [hg] at h2
      have h4 := List.all_eq_true.mp hc ch (List.mem_of_getElem? hg)
      have h5 := List.all_eq_true.mp h4 q h2
      rw [h3] at h5
      exact h5
def mj_ZT (Z : State → Heap → Prop) (G : mj_G) : Prop := ∀ (U : State) (H : Heap), Z U H → vx_Zq Bundle.tN "UNASSIGNED_STACK" Bundle.steD (mj_A G) U H ∧ vx_Zq Bundle.tN "SUPPRESSED_SENTINEL" Bundle.listD (mj_A G) U H ∧ ∀ w ∈ lw_tbl, mj_bw w = true → va_Nw w U
theorem mj_bw_ot {w : Cond} (h : mj_bw w = true) : w.onTables = true := by
  cases w <;> first | (cases h; done) | rfl
theorem mj_throw_law {Z : State → Heap → Prop} {G : mj_G} (hZ : mj_ZT Z G) : mj_ThrowLaw Z G := by
  intro k pc j q E X p l e R s m args below meth c Qc XC H locs ls cells slots mc ms rest hX ha e1 ea hh hl hC hE hS hls hsum h5 h384 hRc hRs hmc hms hx2
  have htho := mj_tho_at hX ha
  obtain ⟨hd0, -⟩ := mj_dec hX ha
  have hlen3 : E.2.1 = 3 := by
    obtain ⟨-, h2⟩ := mj_dec hX ha
    obtain ⟨i, len, r⟩ := E
    simp only at e1
    subst e1
    simp only [mj_ok2, Bool.and_eq_true] at h2
    exact Nat.eq_of_beq_eq_true h2.1
  rw [e1, hlen3] at hd0
  obtain ⟨hx, hb, hr, hml, hown, hts, hlk, hnm, hxt⟩ := hC
  obtain ⟨z1, z2, z3⟩ := hZ s s.heap hE.2.2.2.2.2
  unfold mj_tho at htho
  rw [e1] at htho
  simp only [Bool.or_eq_true] at htho
  rcases htho with h9 | h9
  · rw [Nat.blt_eq] at h9
    omega
  · obtain ⟨cb, hcb, h10⟩ := List.any_eq_true.mp h9
    simp only [Bool.and_eq_true, decide_eq_true_eq] at h10
    obtain ⟨g1, g2, g3, g4, g5, g6⟩ := h10
    have f1 := Nat.eq_of_beq_eq_true g1
    have f2 := Nat.eq_of_beq_eq_true g2
    have f3 := Nat.eq_of_beq_eq_true g3
    obtain ⟨w1, w2, w3, w4⟩ := mj_tf_all cb hcb
    have fq : cb.2.2.2 = q := by omega
    have hall := List.all_eq_true.mp w1
    have hat : ∀ w ∈ vx_at0 (mj_cn cb.1) cb.2.2.1 (mj_en cb.2.2.2) mj_nm, w.before args s = true := fun w hw => by
      have h7 := hall w hw
      simp only [Bool.and_eq_true, Bool.or_eq_true, decide_eq_true_eq] at h7
      rcases h7.2 with h8 | h8
      · exact hts w (List.mem_filter.mpr ⟨h7.1, h8⟩)
      · exact va_tabs (mj_bw_ot h8) rfl (z3 w h7.1 h8)
    have hgood : ∀ w ∈ Cond.classLink (mj_cn cb.1) cb.2.1 (mj_en cb.2.2.2) :: Cond.initialized (mj_en cb.2.2.2) :: vx_at0 (mj_cn cb.1) cb.2.2.1 (mj_en cb.2.2.2) mj_nm, vx_ot w = true := by
      intro w hw
      rcases List.mem_cons.mp hw with rfl | hw
      · rfl
      · rcases List.mem_cons.mp hw with rfl | hw
        · rfl
        · have h7 := hall w hw
          simp only [Bool.and_eq_true, Bool.or_eq_true] at h7
          unfold vx_ot
          rw [Bool.or_eq_true]
          rcases h7.2 with h8 | h8
          · exact Or.inr h8
          · exact Or.inl (mj_bw_ot h8)
    rw [f1] at hown
    rw [f2] at hd0
    rw [fq] at w2 w3 w4 hat hgood
    refine vx_throw0 (own := mj_cn cb.1) (names := mj_nm) (ik := cb.2.1) (ic := cb.2.2.1) (A := mj_A G) hx hb hl hown w4 (by decide +kernel) (hts _ w2) (hts _ w3) hat hgood z1 z2 hS (hls.trans hml.symm) hd0 g4 g5 g6 ?_ ?_ ?_ hRc hRs hlk hx2 hS.2.2 hmc hms
    · rw [hxt, mj_hh_nil hX hh]
      intro x hx'
      cases hx'
    · show 2 + 3 < R.frames
      omega
    · show (rest.map fun v => v.category).sum + (13 * (2 + 1) + 42) ≤ R.locals
      omega
