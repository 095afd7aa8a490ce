/-! THE TWO MACHINES: one instruction -/
def mi_n (x : Int64) : Nat := x.toNatClampNeg
theorem mi_n_nL {n : Nat} (h : n < 9223372036854775808) : mi_n (nL n) = n := by
  unfold mi_n
  rw [← Int64.toNat_toInt, mi_nL n h]; rfl
theorem mi_n_u {x : Int64} (h : mi_u x) : x = nL (mi_n x) ∧ mi_n x < 4294967296 := by
  obtain ⟨n, h1, rfl⟩ := h
  rw [mi_n_nL (by omega)]; exact ⟨rfl, h1⟩
def mi_plain (op : Nat) : Prop := op ≤ 12 ∨ (20 ≤ op ∧ op ≤ 27) ∨ (30 ≤ op ∧ op ≤ 37)
/-- what an instruction that is no test and no end does: rejects, or sets A (0), X (1) or a cell (2) -/
def mi_act (fl : Nat → Nat → Option Int64) (len : Nat) (op : Nat) (w a x : Int64) (ce : Nat → Int64) : Option (Nat × Nat × Int64) :=
  if op = 0 then some (0, 0, w) else if op = 1 then some (0, 0, nL len) else
  if op ≤ 4 then (fl (mi_n w) (2 ^ (op - 2))).map (fun v => (0, 0, v)) else
  if op ≤ 7 then (fl (mi_n ((x + w) &&& (4294967295 : Int64))) (2 ^ (op - 5))).map (fun v => (0, 0, v)) else
  if op = 8 then (fl (mi_n w) 1).map (fun v => (1, 0, (4 : Int64) * (v &&& (15 : Int64)))) else
  if op = 9 then some (0, 0, ce (mi_n w)) else if op = 10 then some (1, 0, ce (mi_n w)) else if op = 11 then some (2, mi_n w, a) else if op = 12 then some (1, 0, a) else
  if op ≤ 27 then (mi_cmb (nI (op - 20)) a w).map (fun v => (0, 0, v)) else (mi_cmb (nI (op - 30)) a x).map (fun v => (0, 0, v))
/-- what is set, in the class's machine and in the reference -/
def mi_wC (z : Nat × Nat × Int64) (t : mw_T) : mw_T := if z.1 = 0 then mw_wl t 5 2 z.2.2 else if z.1 = 1 then mw_wl t 5 3 z.2.2 else mw_wl t 6 z.2.1 z.2.2
def mi_wM (z : Nat × Nat × Int64) (t : mw_T) : mw_T := if z.1 = 0 then mw_wl t 49 54 z.2.2 else if z.1 = 1 then mw_wl t 49 55 z.2.2 else mw_wl t 84 z.2.1 z.2.2
def mi_oC (t : mw_T) : Option (Nat × Nat × Int64) → mw_X Int32
  | none => some (.inl 0, t)
  | some z => some (.inl 1, mi_wC z t)
def mi_oM (t : mw_T) : Option (Nat × Nat × Int64) → mw_X Unit
  | none => some (.inl (), mw_wi t 49 53 1)
  | some z => some (.inl (), mi_wM z t)
theorem mi_takesA (N R : Nat) (t : mw_T) {r : Option Int64} (hu : ∀ v, r = some v → mi_u v) : mf_Machine_takesA N R (mi_re r) t = mi_oC t (r.map (fun v => (0, 0, v))) := by
  cases r with
  | none => rfl
  | some v => rw [mf_Machine_takesA, if_neg (show ¬ mi_re (some v) = -1 from mi_u_ne (hu v rfl))]; rfl
theorem mi_takesX (N R : Nat) (t : mw_T) {r : Option Int64} (hu : ∀ v, r = some v → mi_u v) : mf_Machine_takesX N R (mi_re r) t = mi_oC t (r.map (fun v => (1, 0, v))) := by
  cases r with
  | none => rfl
  | some v => rw [mf_Machine_takesX, if_neg (show ¬ mi_re (some v) = -1 from mi_u_ne (hu v rfl))]; rfl
theorem mi_bz (t : mw_T) (r : Option (Nat × Nat × Int64)) : mw_b (mi_oC t r) (fun v t' => (if v = 0 ∨ v = 1 then (some (.inl v, t')) else none)) = mi_oC t r := by
  cases r with
  | none => rfl
  | some z => rfl
theorem mi_u_or4 {v : Int64} (h : mi_u v) : mi_u ((4 : Int64) * (v &&& (15 : Int64))) := by
  obtain ⟨m, h1, h2⟩ := mi_u_and h (mi_u_nL (n := 15) (by omega))
  have h3 : m ≤ 15 := by
    obtain ⟨n, g1, rfl⟩ := h
    have : nL n &&& (15 : Int64) = nL (n % 16) := by
      rw [← Int64.toBitVec_inj, Int64.toBitVec_and, mi_nLb, mi_nLb]
      apply BitVec.eq_of_toNat_eq
      rw [BitVec.toNat_and, BitVec.toNat_ofNat, BitVec.toNat_ofNat, show ((15 : Int64).toBitVec).toNat = 2 ^ 4 - 1 from rfl, Nat.and_two_pow_sub_one_eq_mod]
      omega
    rw [show nL n &&& nL 15 = nL (n % 16) from this, mi_eqL (by omega) (by omega)] at h2
    omega
  rw [show v &&& (15 : Int64) = nL m from h2, show (4 : Int64) = nL 4 from rfl, mi_mulL]
  exact mi_u_nL (by omega)
theorem mi_chead (N R : Nat) (hN : 6 ≤ N) {pk : Nat → Nat} {n : Nat} {t : mw_T} (h : mi_PktW pk n t) (p : Nat) (hp : p < 4294967296) : mf_Packet_headerLength N R (nL p) t = some (.inl (mi_re ((mi_fld pk n p 1).map (fun v => (4 : Int64) * (v &&& (15 : Int64))))), t) := by
  rw [mf_Packet_headerLength, show (1 : Int32) = nI 1 from rfl, mi_cfield N R hN h p 1 (by omega) hp, mi_b]
  cases e : mi_fld pk n p 1 with
  | none => rfl
  | some v => rw [show mi_re (some v) = v from rfl, if_neg (mi_u_ne (mi_fld_u h (by omega) e))]; rfl
theorem mi_cell15 : ∀ c, c < 16 → nI c &&& (15 : Int32) = nI c := by decide +kernel
/-- the state of the class's machine is within bounds -/
def mi_uC (t : mw_T) : Prop := mi_u (t.2.1 5 2) ∧ mi_u (t.2.1 5 3) ∧ ∀ i, i < 16 → mi_u (t.2.1 6 i)
theorem mi_fos (N R : Nat) (hN : 6 ≤ N) {pk : Nat → Nat} {n : Nat} {t : mw_T} (h : mi_PktW pk n t) {op : Nat} (hop : (2 ≤ op ∧ op ≤ 7) ∨ (20 ≤ op ∧ op ≤ 27) ∨ (30 ≤ op ∧ op ≤ 37)) {w : Int64} (hw : mi_u w) (hu : mi_uC t) :
    ∃ r, mf_Machine_fieldOrSum N R (nI op) w t = some (.inl (mi_re r), t) ∧ (∀ v, r = some v → mi_u v) ∧ r.map (fun v => (0, 0, v)) = mi_act (mi_fld pk n) n op w (t.2.1 5 2) (t.2.1 5 3) (t.2.1 6) := by
  obtain ⟨hw1, hw2⟩ := mi_n_u hw
  have hm := mi_n_u (mi_u_mask ((t.2.1 5 3) + w))
  rcases hop with hop | hop | hop
  · by_cases h4 : op ≤ 4
    · refine ⟨mi_fld pk n (mi_n w) (2 ^ (op - 2)), ?_, fun v e => ?_, ?_⟩
      · rw [mf_Machine_fieldOrSum, if_pos (show nI op < (30 : Int32) from mi_ltT (b := 30) (by omega) (by omega)), if_pos (show nI op < (20 : Int32) from mi_ltT (b := 20) (by omega) (by omega)), if_pos (show nI op < (5 : Int32) from mi_ltT (b := 5) (by omega) (by omega))]
        have e : (1 : Int32) <<< ((nI op - (2 : Int32)) &&& 31) = nI (2 ^ (op - 2)) ∧ 2 ^ (op - 2) ≤ 4 := by
          have : op = 2 ∨ op = 3 ∨ op = 4 := by omega
          rcases this with rfl | rfl | rfl <;> exact ⟨by decide +kernel, by decide⟩
        rw [e.1]
        conv => lhs; rw [hw1]
        rw [mi_cfield N R hN h _ _ e.2 hw2, mi_b]
      · refine mi_fld_u h ?_ e
        have : op = 2 ∨ op = 3 ∨ op = 4 := by omega
        rcases this with rfl | rfl | rfl <;> decide
      · rw [mi_act, if_neg (by omega), if_neg (by omega), if_pos h4]
    · refine ⟨mi_fld pk n (mi_n (((t.2.1 5 3) + w) &&& (4294967295 : Int64))) (2 ^ (op - 5)), ?_, fun v e => ?_, ?_⟩
      · rw [mf_Machine_fieldOrSum, if_pos (show nI op < (30 : Int32) from mi_ltT (b := 30) (by omega) (by omega)), if_pos (show nI op < (20 : Int32) from mi_ltT (b := 20) (by omega) (by omega)), if_neg (show ¬ nI op < (5 : Int32) from mi_ltF (b := 5) (by omega) (by omega))]
        have e : (1 : Int32) <<< ((nI op - (5 : Int32)) &&& 31) = nI (2 ^ (op - 5)) ∧ 2 ^ (op - 5) ≤ 4 := by
          have : op = 5 ∨ op = 6 ∨ op = 7 := by omega
          rcases this with rfl | rfl | rfl <;> exact ⟨by decide +kernel, by decide⟩
        rw [e.1]
        conv => lhs; rw [hm.1]
        rw [mi_cfield N R hN h _ _ e.2 hm.2, mi_b]
      · refine mi_fld_u h ?_ e
        have : op = 5 ∨ op = 6 ∨ op = 7 := by omega
        rcases this with rfl | rfl | rfl <;> decide
      · rw [mi_act, if_neg (by omega), if_neg (by omega), if_neg h4, if_pos (by omega)]
  · refine ⟨mi_cmb (nI (op - 20)) (t.2.1 5 2) w, ?_, fun v e => mi_cmb_u hu.1 hw e, ?_⟩
    · rw [mf_Machine_fieldOrSum, if_pos (show nI op < (30 : Int32) from mi_ltT (b := 30) (by omega) (by omega)), if_neg (show ¬ nI op < (20 : Int32) from mi_ltF (b := 20) (by omega) (by omega)), show nI op - (20 : Int32) = nI (op - 20) from mi_sub (b := 20) (by omega), mi_combine, mi_bs]
    · rw [mi_act, if_neg (by omega), if_neg (by omega), if_neg (by omega), if_neg (by omega), if_neg (by omega), if_neg (by omega), if_neg (by omega), if_neg (by omega), if_neg (by omega), if_pos (by omega)]
  · refine ⟨mi_cmb (nI (op - 30)) (t.2.1 5 2) (t.2.1 5 3), ?_, fun v e => mi_cmb_u hu.1 hu.2.1 e, ?_⟩
    · rw [mf_Machine_fieldOrSum, if_neg (show ¬ nI op < (30 : Int32) from mi_ltF (b := 30) (by omega) (by omega)), show nI op - (30 : Int32) = nI (op - 30) from mi_sub (b := 30) (by omega), mi_combine, mi_bs]
    · rw [mi_act, if_neg (by omega), if_neg (by omega), if_neg (by omega), if_neg (by omega), if_neg (by omega), if_neg (by omega), if_neg (by omega), if_neg (by omega), if_neg (by omega), if_neg (by omega)]
theorem mi_works (N R : Nat) (hN : 6 ≤ N) {pk : Nat → Nat} {n : Nat} {t : mw_T} (h : mi_PktW pk n t) {op : Nat} (hop : mi_plain op) {w : Int64} (hw : mi_u w) (hc : op = 9 ∨ op = 10 ∨ op = 11 → mi_n w < 16) (hu : mi_uC t) :
    mf_Machine_works N R (nI op) w t = mi_oC t (mi_act (mi_fld pk n) n op w (t.2.1 5 2) (t.2.1 5 3) (t.2.1 6)) := by
  obtain ⟨hw1, hw2⟩ := mi_n_u hw
  have hn := h.1
  have hop' : op ≤ 37 := by unfold mi_plain at hop; omega
  have fos : (2 ≤ op ∧ op ≤ 7) ∨ (20 ≤ op ∧ op ≤ 27) ∨ (30 ≤ op ∧ op ≤ 37) → mw_b (mf_Machine_fieldOrSum N R (nI op) w t) (fun v1 t1 => (mw_b (mf_Machine_takesA N R v1 t1) (fun v2 t2 => (if v2 = 0 ∨ v2 = 1 then (some (.inl v2, t2)) else none)))) = mi_oC t (mi_act (mi_fld pk n) n op w (t.2.1 5 2) (t.2.1 5 3) (t.2.1 6)) := by
    intro ho
    obtain ⟨r, e1, e2, e3⟩ := mi_fos N R hN h ho hw hu
    rw [e1, mi_b, mi_takesA N R t e2, mi_bz, e3]
  unfold mf_Machine_works
  by_cases c0 : op = 0
  · subst c0
    rw [if_pos (show nI 0 = (0 : Int32) from rfl), show w = mi_re (some w) from rfl, mi_takesA N R t (fun v e => by cases e; exact hw), mi_bz]; rfl
  rw [if_neg (show ¬ nI op = (0 : Int32) from mi_neT (b := 0) (by omega) (by omega) c0)]
  by_cases c1 : op = 1
  · subst c1
    rw [if_pos (show nI 1 = (1 : Int32) from rfl), mf_Packet_length, mi_b, h.2.1, mi_IL (by omega), show nL n = mi_re (some (nL n)) from rfl, mi_takesA N R t (fun v e => by cases e; exact mi_u_nL (by omega)), mi_bz]; rfl
  rw [if_neg (show ¬ nI op = (1 : Int32) from mi_neT (b := 1) (by omega) (by omega) c1)]
  by_cases c2 : op = 2
  · rw [if_pos (show nI op = (2 : Int32) from by rw [c2]; rfl)]; exact fos (by omega)
  rw [if_neg (show ¬ nI op = (2 : Int32) from mi_neT (b := 2) (by omega) (by omega) c2)]
  by_cases c3 : op = 3
  · rw [if_pos (show nI op = (3 : Int32) from by rw [c3]; rfl)]; exact fos (by omega)
  rw [if_neg (show ¬ nI op = (3 : Int32) from mi_neT (b := 3) (by omega) (by omega) c3)]
  by_cases c4 : op = 4
  · rw [if_pos (show nI op = (4 : Int32) from by rw [c4]; rfl)]; exact fos (by omega)
  rw [if_neg (show ¬ nI op = (4 : Int32) from mi_neT (b := 4) (by omega) (by omega) c4)]
  by_cases c5 : op = 5
  · rw [if_pos (show nI op = (5 : Int32) from by rw [c5]; rfl)]; exact fos (by omega)
  rw [if_neg (show ¬ nI op = (5 : Int32) from mi_neT (b := 5) (by omega) (by omega) c5)]
  by_cases c6 : op = 6
  · rw [if_pos (show nI op = (6 : Int32) from by rw [c6]; rfl)]; exact fos (by omega)
  rw [if_neg (show ¬ nI op = (6 : Int32) from mi_neT (b := 6) (by omega) (by omega) c6)]
  by_cases c7 : op = 7
  · rw [if_pos (show nI op = (7 : Int32) from by rw [c7]; rfl)]; exact fos (by omega)
  rw [if_neg (show ¬ nI op = (7 : Int32) from mi_neT (b := 7) (by omega) (by omega) c7)]
  by_cases c8 : op = 8
  · subst c8
    rw [if_pos (show nI 8 = (8 : Int32) from rfl)]
    conv => lhs; rw [hw1]
    rw [mi_chead N R hN h _ hw2, mi_b, mi_takesX N R t (fun v e => by
      cases ef : mi_fld pk n (mi_n w) 1 with
      | none => rw [ef] at e; cases e
      | some z => rw [ef] at e; cases e; exact mi_u_or4 (mi_fld_u h (by omega) ef)), mi_bz, Option.map_map]
    rfl
  rw [if_neg (show ¬ nI op = (8 : Int32) from mi_neT (b := 8) (by omega) (by omega) c8)]
  have hcell : op = 9 ∨ op = 10 ∨ op = 11 → w.toInt32 &&& (15 : Int32) = nI (mi_n w) := by
    intro ho
    conv => lhs; rw [hw1]
    rw [mi_LI, mi_cell15 _ (hc ho)]
  by_cases c9 : op = 9
  · have hm := hc (Or.inl c9)
    rw [if_pos (show nI op = (9 : Int32) from by rw [c9]; rfl), hcell (Or.inl c9), if_pos (mi_inT (by omega) hm), mi_tn (by omega), show t.2.1 6 (mi_n w) = mi_re (some (t.2.1 6 (mi_n w))) from rfl, mi_takesA N R t (fun v e => by cases e; exact hu.2.2 _ hm), mi_bz, c9]; rfl
  rw [if_neg (show ¬ nI op = (9 : Int32) from mi_neT (b := 9) (by omega) (by omega) c9)]
  by_cases c10 : op = 10
  · have hm := hc (Or.inr (Or.inl c10))
    rw [if_pos (show nI op = (10 : Int32) from by rw [c10]; rfl), hcell (Or.inr (Or.inl c10)), if_pos (mi_inT (by omega) hm), mi_tn (by omega), show t.2.1 6 (mi_n w) = mi_re (some (t.2.1 6 (mi_n w))) from rfl, mi_takesX N R t (fun v e => by cases e; exact hu.2.2 _ hm), mi_bz, c10]; rfl
  rw [if_neg (show ¬ nI op = (10 : Int32) from mi_neT (b := 10) (by omega) (by omega) c10)]
  by_cases c11 : op = 11
  · have hm := hc (Or.inr (Or.inr c11))
    rw [if_pos (show nI op = (11 : Int32) from by rw [c11]; rfl), hcell (Or.inr (Or.inr c11)), if_pos (mi_inT (by omega) hm), mi_tn (by omega), c11]; rfl
  rw [if_neg (show ¬ nI op = (11 : Int32) from mi_neT (b := 11) (by omega) (by omega) c11)]
  by_cases c12 : op = 12
  · rw [if_pos (show nI op = (12 : Int32) from by rw [c12]; rfl), show t.2.1 5 2 = mi_re (some (t.2.1 5 2)) from rfl, mi_takesX N R t (fun v e => by cases e; exact hu.1), mi_bz, c12]; rfl
  rw [if_neg (show ¬ nI op = (12 : Int32) from mi_neT (b := 12) (by omega) (by omega) c12)]
  unfold mi_plain at hop
  exact fos (by omega)
