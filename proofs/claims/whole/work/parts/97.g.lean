/-! .. the reference's instruction -/
def mi_uM (t : mw_T) : Prop := mi_u (t.2.1 49 54) ∧ mi_u (t.2.1 49 55) ∧ ∀ i, i < 16 → mi_u (t.2.1 84 i)
theorem mi_ltO (a b : Nat) (ha : a < 2147483648) (hb : b < 2147483648) : (nI a < nI b) ↔ a < b := by rw [mi_lt ha hb]
/-- the end of doIt, when nothing was rejected -/
theorem mi_doEnd (N R : Nat) {pk : Nat → Nat} {n : Nat} {t : mw_T} (h : mi_PktW pk n t) (h0 : t.1 49 53 = 0) {op : Nat} (hop : mi_plain op) {w : Int64} (hw : mi_u w) (hc : op = 9 ∨ op = 10 ∨ op = 11 → mi_n w < 16) (v : Int64) :
    mf_Model_doIt_b128 N R (nI op) w v t = some (.inl (), mi_wM (if op = 0 then (0, 0, w) else if op = 1 then (0, 0, nL n) else if op ≤ 7 then (0, 0, v) else if op = 8 then (1, 0, v) else if op = 9 then (0, 0, t.2.1 84 (mi_n w)) else if op = 10 then (1, 0, t.2.1 84 (mi_n w)) else if op = 11 then (2, mi_n w, t.2.1 49 54) else if op = 12 then (1, 0, t.2.1 49 54) else (0, 0, v)) t) := by
  obtain ⟨hw1, hw2⟩ := mi_n_u hw
  have hn := h.1
  have hwI : w.toInt32 = nI (mi_n w) := by
    conv => lhs; rw [hw1]
    exact mi_LI _
  have hlen : (t.1 49 50).toInt64 = nL n := by rw [h.2.2.1, mi_IL (by omega)]
  have hop' : op ≤ 37 := by unfold mi_plain at hop; omega
  by_cases c20 : 20 ≤ op
  · have ne : ∀ b, b < 20 → ¬ nI op = nI b := fun b hb => mi_neT (by omega) (by omega) (by omega)
    rw [mf_Model_doIt_b128, if_pos h0, if_neg (show ¬ nI op < (2 : Int32) from mi_ltF (b := 2) (by omega) (by omega)), if_pos (show (7 : Int32) < nI op from mi_ltT (a := 7) (by omega) (by omega)), mf_Model_doIt_b147, if_neg (show ¬ nI op < (20 : Int32) from mi_ltF (b := 20) (by omega) (by omega)), mf_Model_doIt_b153, mf_Model_doIt_b159, if_neg (show ¬ nI op = (0 : Int32) from ne 0 (by omega)), mf_Model_doIt_b168, if_neg (show ¬ nI op = (1 : Int32) from ne 1 (by omega)), mf_Model_doIt_b182, if_neg (show ¬ nI op = (8 : Int32) from ne 8 (by omega)), mf_Model_doIt_b194, if_neg (show ¬ nI op = (9 : Int32) from ne 9 (by omega)), mf_Model_doIt_b211, if_neg (show ¬ nI op = (10 : Int32) from ne 10 (by omega)), mf_Model_doIt_b228, if_neg (show ¬ nI op = (11 : Int32) from ne 11 (by omega)), mf_Model_doIt_b245, if_neg (show ¬ nI op = (12 : Int32) from ne 12 (by omega))]
    rw [if_neg (by omega), if_neg (by omega), if_neg (by omega), if_neg (by omega), if_neg (by omega), if_neg (by omega), if_neg (by omega), if_neg (by omega)]
    rfl
  · have : op = 0 ∨ op = 1 ∨ op = 2 ∨ op = 3 ∨ op = 4 ∨ op = 5 ∨ op = 6 ∨ op = 7 ∨ op = 8 ∨ op = 9 ∨ op = 10 ∨ op = 11 ∨ op = 12 := by unfold mi_plain at hop; omega
    have hcell : op = 9 ∨ op = 10 ∨ op = 11 → mj_in w.toInt32 16 = true ∧ w.toInt32.toNatClampNeg = mi_n w := by
      intro ho
      have := hc ho
      rw [hwI, mi_tn (by omega)]
      exact ⟨mi_inT (by omega) this, rfl⟩
    rcases this with rfl | rfl | rfl | rfl | rfl | rfl | rfl | rfl | rfl | rfl | rfl | rfl | rfl
    all_goals simp (decide := true) only [mf_Model_doIt_b128, mf_Model_doIt_b147, mf_Model_doIt_b153, mf_Model_doIt_b159, mf_Model_doIt_b168, mf_Model_doIt_b182, mf_Model_doIt_b194, mf_Model_doIt_b211, mf_Model_doIt_b228, mf_Model_doIt_b245, h0, hlen, ite_true, ite_false, if_true, if_false]
    all_goals first
      | rfl
      | (obtain ⟨e1, e2⟩ := hcell (by omega)
         simp only [e1, e2, if_true]
         rfl)
theorem mi_doIt (N R : Nat) (hN : 6 ≤ N) {pk : Nat → Nat} {n : Nat} {t : mw_T} (h : mi_PktW pk n t) (h0 : t.1 49 53 = 0) {op : Nat} (hop : mi_plain op) {w : Int64} (hw : mi_u w) (hc : op = 9 ∨ op = 10 ∨ op = 11 → mi_n w < 16) (hu : mi_uM t) :
    mf_Model_doIt N R (nI op) w t = mi_oM t (mi_act (mi_fld pk n) n op w (t.2.1 49 54) (t.2.1 49 55) (t.2.1 84)) := by
  obtain ⟨hw1, hw2⟩ := mi_n_u hw
  have hm := mi_n_u (mi_u_mask ((t.2.1 49 55) + w))
  have hn := h.1
  have hop' : op ≤ 37 := by unfold mi_plain at hop; omega
  -- rejected: nothing more is done
  have rej : ∀ v, mf_Model_doIt_b128 N R (nI op) w v (mw_wi t 49 53 1) = some (.inl (), mw_wi t 49 53 1) := by
    intro v
    rw [mf_Model_doIt_b128, if_neg (show ¬ (mw_wi t 49 53 1).1 49 53 = 0 from (by decide : ¬ (1 : Int32) = 0))]
  have b94 : ∀ (T : mw_T) (v : Int64), op < 20 → mf_Model_doIt_b94 N R (nI op) w v T = mf_Model_doIt_b128 N R (nI op) w v T := by
    intro T v ho
    rw [mf_Model_doIt_b94, if_pos (show nI op < (20 : Int32) from mi_ltT (b := 20) (by omega) ho)]
  have b72 : ∀ (T : mw_T) (v : Int64), op < 20 → op ≠ 8 → mf_Model_doIt_b72 N R (nI op) w v T = mf_Model_doIt_b128 N R (nI op) w v T := by
    intro T v ho h8
    rw [mf_Model_doIt_b72, if_neg (show ¬ nI op = (8 : Int32) from mi_neT (b := 8) (by omega) (by omega) h8), b94 T v ho]
  by_cases c2 : op < 2
  · rw [mf_Model_doIt, if_pos (show nI op < (2 : Int32) from mi_ltT (b := 2) (by omega) c2), mf_Model_doIt_b32, if_pos (show nI op < (5 : Int32) from mi_ltT (b := 5) (by omega) (by omega)), b72 _ _ (by omega) (by omega), mi_doEnd N R h h0 hop hw hc]
    have : op = 0 ∨ op = 1 := by omega
    rcases this with rfl | rfl <;> rfl
  rw [mf_Model_doIt, if_neg (show ¬ nI op < (2 : Int32) from mi_ltF (b := 2) (by omega) (by omega))]
  by_cases c4 : op ≤ 4
  · rw [if_neg (show ¬ (4 : Int32) < nI op from mi_ltF (a := 4) (by omega) (by omega))]
    have key : ∀ (y : Int32), y = nI (2 ^ (op - 2)) → mf_Model_doIt_b27 N R (nI op) w y w t = mi_oM t (mi_act (mi_fld pk n) n op w (t.2.1 49 54) (t.2.1 49 55) (t.2.1 84)) := by
      intro y hy
      subst hy
      have e2 : 2 ^ (op - 2) ≤ 4 := by
        have : op = 2 ∨ op = 3 ∨ op = 4 := by omega
        rcases this with rfl | rfl | rfl <;> decide
      have b32 : ∀ (v : Int64) (T : mw_T), mf_Model_doIt_b32 N R (nI op) w v T = mf_Model_doIt_b128 N R (nI op) w v T := by
        intro v T
        rw [mf_Model_doIt_b32, if_pos (show nI op < (5 : Int32) from mi_ltT (b := 5) (by omega) (by omega)), b72 _ _ (by omega) (by omega)]
      rw [mf_Model_doIt_b27]
      have e3 : mf_Model_field N R w (nI (2 ^ (op - 2))) t = mi_rj t (mi_fld pk n (mi_n w) (2 ^ (op - 2))) := by
        conv => lhs; rw [hw1]
        exact mi_mfield N R hN h _ _ e2 hw2
      rw [e3, mi_act, if_neg (by omega), if_neg (by omega), if_pos c4]
      cases mi_fld pk n (mi_n w) (2 ^ (op - 2)) with
      | none => rw [mi_rj, mi_b, b32, rej]; rfl
      | some v =>
        rw [mi_rj, mi_b, b32, mi_doEnd N R h h0 hop hw hc, if_neg (by omega), if_neg (by omega), if_pos (by omega)]; rfl
    by_cases c4' : op = 4
    · rw [if_pos (show nI op = (4 : Int32) from by rw [c4']; rfl)]
      exact key 4 (by rw [c4']; rfl)
    · rw [if_neg (show ¬ nI op = (4 : Int32) from mi_neT (b := 4) (by omega) (by omega) c4'), show nI op - (1 : Int32) = nI (op - 1) from mi_sub (b := 1) (by omega)]
      refine key _ ?_
      have : op = 2 ∨ op = 3 := by omega
      rcases this with rfl | rfl <;> rfl
  rw [if_pos (show (4 : Int32) < nI op from mi_ltT (a := 4) (by omega) (by omega)), mf_Model_doIt_b32, if_neg (show ¬ nI op < (5 : Int32) from mi_ltF (b := 5) (by omega) (by omega))]
  by_cases c7 : op ≤ 7
  · rw [if_neg (show ¬ (7 : Int32) < nI op from mi_ltF (a := 7) (by omega) (by omega))]
    have key : ∀ (y : Int32), y = nI (2 ^ (op - 5)) → mf_Model_doIt_b67 N R (nI op) w y (((t.2.1 49 55) + w) &&& (4294967295 : Int64)) t = mi_oM t (mi_act (mi_fld pk n) n op w (t.2.1 49 54) (t.2.1 49 55) (t.2.1 84)) := by
      intro y hy
      subst hy
      have e2 : 2 ^ (op - 5) ≤ 4 := by
        have : op = 5 ∨ op = 6 ∨ op = 7 := by omega
        rcases this with rfl | rfl | rfl <;> decide
      rw [mf_Model_doIt_b67]
      have e3 : mf_Model_field N R (((t.2.1 49 55) + w) &&& (4294967295 : Int64)) (nI (2 ^ (op - 5))) t = mi_rj t (mi_fld pk n (mi_n (((t.2.1 49 55) + w) &&& (4294967295 : Int64))) (2 ^ (op - 5))) := by
        conv => lhs; rw [hm.1]
        exact mi_mfield N R hN h _ _ e2 hm.2
      rw [e3, mi_act, if_neg (by omega), if_neg (by omega), if_neg (by omega), if_pos c7]
      cases mi_fld pk n (mi_n (((t.2.1 49 55) + w) &&& (4294967295 : Int64))) (2 ^ (op - 5)) with
      | none => rw [mi_rj, mi_b, b72 _ _ (by omega) (by omega), rej]; rfl
      | some v =>
        rw [mi_rj, mi_b, b72 _ _ (by omega) (by omega), mi_doEnd N R h h0 hop hw hc, if_neg (by omega), if_neg (by omega), if_pos (by omega)]; rfl
    by_cases c7' : op = 7
    · rw [if_pos (show nI op = (7 : Int32) from by rw [c7']; rfl)]
      exact key 4 (by rw [c7']; rfl)
    · rw [if_neg (show ¬ nI op = (7 : Int32) from mi_neT (b := 7) (by omega) (by omega) c7'), show nI op - (4 : Int32) = nI (op - 4) from mi_sub (b := 4) (by omega)]
      refine key _ ?_
      have : op = 5 ∨ op = 6 := by omega
      rcases this with rfl | rfl <;> rfl
  rw [if_pos (show (7 : Int32) < nI op from mi_ltT (a := 7) (by omega) (by omega))]
  by_cases c8 : op = 8
  · rw [mf_Model_doIt_b72, if_pos (show nI op = (8 : Int32) from by rw [c8]; rfl)]
    have e3 : mf_Model_field N R w (1 : Int32) t = mi_rj t (mi_fld pk n (mi_n w) 1) := by
      conv => lhs; rw [hw1]
      exact mi_mfield N R hN h _ 1 (by omega) hw2
    rw [e3, mi_act, if_neg (by omega), if_neg (by omega), if_neg (by omega), if_neg (by omega), if_pos c8]
    cases mi_fld pk n (mi_n w) 1 with
    | none => rw [mi_rj, mi_b, b94 _ _ (by omega), rej]; rfl
    | some v =>
      rw [mi_rj, mi_b, b94 _ _ (by omega), mi_doEnd N R h h0 hop hw hc, if_neg (by omega), if_neg (by omega), if_neg (by omega), if_pos c8]; rfl
  by_cases c20 : op < 20
  · rw [b72 _ _ c20 c8, mi_doEnd N R h h0 hop hw hc]
    have : op = 9 ∨ op = 10 ∨ op = 11 ∨ op = 12 := by unfold mi_plain at hop; omega
    rcases this with rfl | rfl | rfl | rfl <;> rfl
  · rw [mf_Model_doIt_b72, if_neg (show ¬ nI op = (8 : Int32) from mi_neT (b := 8) (by omega) (by omega) c8), mf_Model_doIt_b94, if_neg (show ¬ nI op < (20 : Int32) from mi_ltF (b := 20) (by omega) (by omega))]
    have hmod : op ≤ 27 ∧ nI op - nI op / (10 : Int32) * (10 : Int32) = nI (op - 20) ∨ 30 ≤ op ∧ nI op - nI op / (10 : Int32) * (10 : Int32) = nI (op - 30) := by
      have : op = 20 ∨ op = 21 ∨ op = 22 ∨ op = 23 ∨ op = 24 ∨ op = 25 ∨ op = 26 ∨ op = 27 ∨ op = 30 ∨ op = 31 ∨ op = 32 ∨ op = 33 ∨ op = 34 ∨ op = 35 ∨ op = 36 ∨ op = 37 := by unfold mi_plain at hop; omega
      rcases this with rfl | rfl | rfl | rfl | rfl | rfl | rfl | rfl | rfl | rfl | rfl | rfl | rfl | rfl | rfl | rfl
      all_goals first | (left; exact ⟨by decide, by decide +kernel⟩) | (right; exact ⟨by decide, by decide +kernel⟩)
    have fin : ∀ r : Option Int64, mw_b (mi_rj t r) (fun v4 t4 => (mf_Model_doIt_b128 N R (nI op) w v4 t4)) = mi_oM t (r.map (fun v => (0, 0, v))) := by
      intro r
      cases r with
      | none => rw [mi_rj, mi_b, rej]; rfl
      | some v =>
        rw [mi_rj, mi_b, mi_doEnd N R h h0 hop hw hc, if_neg (by omega), if_neg (by omega), if_neg (by omega), if_neg (by omega), if_neg (by omega), if_neg (by omega), if_neg (by omega), if_neg (by omega)]; rfl
    have act : mi_act (mi_fld pk n) n op w (t.2.1 49 54) (t.2.1 49 55) (t.2.1 84) = if op ≤ 27 then (mi_cmb (nI (op - 20)) (t.2.1 49 54) w).map (fun v => (0, 0, v)) else (mi_cmb (nI (op - 30)) (t.2.1 49 54) (t.2.1 49 55)).map (fun v => (0, 0, v)) := by
      rw [mi_act, if_neg (by omega), if_neg (by omega), if_neg (by omega), if_neg (by omega), if_neg (by omega), if_neg (by omega), if_neg (by omega), if_neg (by omega), if_neg (by omega)]
    rcases hmod with ⟨m1, m2⟩ | ⟨m1, m2⟩
    · rw [if_pos (show nI op < (30 : Int32) from mi_ltT (b := 30) (by omega) (by omega)), act, if_pos m1, m2, mf_Model_doIt_b123, mi_worked N R _ _ _ t h0, fin]
    · rw [if_neg (show ¬ nI op < (30 : Int32) from mi_ltF (b := 30) (by omega) (by omega)), act, if_neg (by omega), m2, mf_Model_doIt_b123, mi_worked N R _ _ _ t h0, fin]
