/-! .. ends and ports of the reference -/
/-- an answer of the reference: where the packet is rejected the number says nothing -/
def mi_lf (r : Option Bool) (t : mw_T) (X : mw_X Int32) : Prop := ∃ v T, X = some (.inl v, T) ∧ (v = 0 ∨ v = 1) ∧ (match r with | none => T = mw_wi t 49 53 1 | some b => T = t ∧ v = mj_b2 b)
theorem mj_b2_01 (b : Bool) : mj_b2 b = 0 ∨ mj_b2 b = 1 := by cases b <;> simp [mj_b2]
theorem mi_lf_bj (r : Option Bool) (t : mw_T) : mi_lf r t (mi_bj t r) := by
  cases r with
  | none => exact ⟨0, _, rfl, Or.inl rfl, rfl⟩
  | some b => exact ⟨_, _, rfl, mj_b2_01 b, rfl, rfl⟩
def mq_mask (bits : Nat) : Int64 := ((4294967295 : Int64) <<< (((32 : Int32) - nI bits).toInt64 &&& 63)) &&& (4294967295 : Int64)
section
variable {N R : Nat} {pk : Nat → Nat} {n : Nat} {t : mw_T}
theorem mq_maskOf {bits : Nat} (hb : bits ≤ 32) : mf_Model_maskOf N R (nI bits) t = some (.inl (mq_mask bits), t) := by
  rw [mf_Model_maskOf]
  by_cases c : bits = 0
  · subst c
    rw [if_pos (show nI 0 = (0 : Int32) from rfl), show mq_mask 0 = 0 by decide]
  · rw [if_neg (show ¬ nI bits = (0 : Int32) from mi_neT (b := 0) (by omega) (by omega) c)]
    rfl
theorem mq_isSide_b26 (hN : 6 ≤ N) (h : mi_PktW pk n t) (h0 : t.1 49 53 = 0) (i e p q s : Nat) (hi : i < 170) (he : e = 1 ∨ e = 2 ∨ e = 3) (hs : s ≤ 4) (hp : p < 4294967296) (hq : q < 4294967296) (ht : t.1 64 i = nI e) (m : Int64) : mi_lf (mq_ends pk n e p q s (t.2.1 70 i) m) t (mf_Model_isSide_b26 N R (nI i) (nL p) (nL q) (nI s) m t) := by
  have hin : mj_in (nI i) 170 = true := mi_inT (by omega) hi
  have e1 := mi_mfield N R hN h p s hs hp
  have e2 := mi_mfield N R hN h q s hs hq
  -- flagged
  have fl : ∀ y0 : Int32, mf_Model_isSide_b67 N R (nI i) (nL q) (nI s) m y0 (mw_wi t 49 53 1) = some (.inl 0, mw_wi t 49 53 1) := by
    intro y0
    rw [mf_Model_isSide_b67, if_neg (show ¬ (mw_wi t 49 53 1).1 49 53 = 0 from (by decide : ¬ (1 : Int32) = 0))]
  -- the second end
  have b67 : mi_lf (if e = 1 then some false else mq_sd pk n q s (t.2.1 70 i) m) t (mf_Model_isSide_b67 N R (nI i) (nL q) (nI s) m 0 t) := by
    rw [mf_Model_isSide_b67, if_pos h0, if_pos rfl, if_pos hin, mi_tn (by omega), ht]
    by_cases c1 : e = 1
    · subst c1
      rw [if_pos (show nI 1 &&& (2 : Int32) = 0 by decide), if_pos rfl]
      exact ⟨0, t, rfl, Or.inl rfl, rfl, rfl⟩
    · rw [if_neg (show ¬ nI e &&& (2 : Int32) = 0 by rcases he with rfl | rfl | rfl <;> first | omega | decide), if_neg c1, e2, mq_sd]
      cases mi_fld pk n q s with
      | none =>
        rw [mi_rj, mi_b, if_pos hin]
        split
        · exact ⟨1, _, rfl, Or.inr rfl, rfl⟩
        · exact ⟨0, _, rfl, Or.inl rfl, rfl⟩
      | some v =>
        rw [mi_rj, mi_b, if_pos hin]
        by_cases c : (v &&& m) = ((t.2.1 70 i) &&& m)
        · rw [if_pos (show (v &&& m) = ((t.2.1 70 i) &&& m) from c)]
          simp only [Option.map_some, decide_eq_true c]
          exact ⟨1, _, rfl, Or.inr rfl, rfl, rfl⟩
        · rw [if_neg (show ¬ (v &&& m) = ((t.2.1 70 i) &&& m) from c)]
          simp only [Option.map_some, decide_eq_false c]
          exact ⟨0, _, rfl, Or.inl rfl, rfl, rfl⟩
  rw [mf_Model_isSide_b26, if_pos hin, mi_tn (by omega), ht, mq_ends]
  by_cases c2 : e = 2
  · subst c2
    rw [if_pos (show nI 2 &&& (1 : Int32) = 0 by decide), mf_Model_isSide_b66, if_pos rfl]
    exact b67
  · rw [if_neg (show ¬ nI e &&& (1 : Int32) = 0 by rcases he with rfl | rfl | rfl <;> first | omega | decide), if_neg c2, e1]
    have hsd : mq_sd pk n p s (t.2.1 70 i) m = (mi_fld pk n p s).map (fun v => decide ((v &&& m) = ((t.2.1 70 i) &&& m))) := rfl
    rw [hsd]
    cases mi_fld pk n p s with
    | none =>
      rw [mi_rj, mi_b, if_pos hin, mf_Model_isSide_b66, fl, fl]
      refine ⟨0, mw_wi t 49 53 1, ?_, Or.inl rfl, rfl⟩
      split <;> rfl
    | some v =>
      rw [mi_rj, mi_b, if_pos hin]
      by_cases c : (v &&& m) = ((t.2.1 70 i) &&& m)
      · rw [if_pos (show (v &&& m) = ((t.2.1 70 i) &&& m) from c), mf_Model_isSide_b67, if_pos h0, if_neg (show ¬ (1 : Int32) = 0 by decide)]
        simp only [Option.map_some, decide_eq_true c]
        exact ⟨1, _, rfl, Or.inr rfl, rfl, rfl⟩
      · rw [if_neg (show ¬ (v &&& m) = ((t.2.1 70 i) &&& m) from c), mf_Model_isSide_b66]
        simp only [Option.map_some, decide_eq_false c]
        exact b67
/-- the mask of a node of the reference -/
def mq_nm (k bits : Nat) : Int64 := if k = 11 then mq_mask bits else (4294967295 : Int64)
theorem mq_isSide (hN : 6 ≤ N) (h : mi_PktW pk n t) (h0 : t.1 49 53 = 0) (i k e bits p q s : Nat) (hi : i < 170) (he : e = 1 ∨ e = 2 ∨ e = 3) (hs : s ≤ 4) (hp : p < 4294967296) (hq : q < 4294967296) (hk : k < 100) (hb : bits ≤ 32) (ht : t.1 64 i = nI e) (hk' : t.1 63 i = nI k) (hb' : t.1 66 i = nI bits) : mi_lf (mq_ends pk n e p q s (t.2.1 70 i) (mq_nm k bits)) t (mf_Model_isSide N R (nI i) (nL p) (nL q) (nI s) t) := by
  have hin : mj_in (nI i) 170 = true := mi_inT (by omega) hi
  rw [mf_Model_isSide, if_pos hin, mi_tn (by omega), hk', mq_nm]
  by_cases c : k = 11
  · subst c
    rw [if_pos (show nI 11 = (11 : Int32) from rfl), if_pos hin, hb', mq_maskOf hb, mi_bs, if_pos rfl]
    exact mq_isSide_b26 hN h h0 i e p q s hi he hs hp hq ht _
  · rw [if_neg (show ¬ nI k = (11 : Int32) from mi_neT (b := 11) (by omega) (by omega) c), if_neg c]
    exact mq_isSide_b26 hN h h0 i e p q s hi he hs hp hq ht _
theorem mq_isPort (hN : 6 ≤ N) (h : mi_PktW pk n t) (h0 : t.1 49 53 = 0) (i e bits : Nat) (hi : i < 170) (he : e = 1 ∨ e = 2 ∨ e = 3) (hb : bits ≤ 32) (ht : t.1 64 i = nI e) (hk' : t.1 63 i = nI 12) (hb' : t.1 66 i = nI bits) : mi_lf (mq_port pk n e (t.2.1 70 i)) t (mf_Model_isPort N R (nI i) t) := by
  have e1 : mf_Model_field N R (23 : Int64) (1 : Int32) t = mi_rj t (mi_fld pk n 23 1) := mi_mfield N R hN h 23 1 (by omega) (by omega)
  have ew := mq_isWhole (N := N) (R := R) hN h h0
  have b48 : 24 ≤ n → mi_lf (match mq_wh pk n with | some true => mq_ends pk n e (14 + mq_hd pk) (16 + mq_hd pk) 2 (t.2.1 70 i) (4294967295 : Int64) | x => x) t (mf_Model_isPort_b48 N R (nI i) t) := by
    intro hn
    have hl := (h.2.2.2 14 (by omega)).1
    have hh : mq_hd pk < 64 := by unfold mq_hd; omega
    have eh : mf_Model_head N R t = some (.inl (nL (mq_hd pk)), t) := by
      have e3 : mf_Model_field N R (14 : Int64) (1 : Int32) t = mi_rj t (mi_fld pk n 14 1) := mi_mfield N R hN h 14 1 (by omega) (by omega)
      have e4 := mq_head h (show 15 ≤ n by omega)
      rw [mf_Model_head, e3]
      cases hf : mi_fld pk n 14 1 with
      | none => rw [hf] at e4; cases e4
      | some v =>
        rw [hf, Option.map_some] at e4
        injection e4 with e4
        rw [mi_rj, mi_b, e4]
    rw [mf_Model_isPort_b48, ew]
    cases mq_wh pk n with
    | none =>
      simp only [mi_b]
      rw [if_neg (by decide), if_neg (show ¬ (mw_wi t 49 53 1).1 49 53 = 0 from (by decide : ¬ (1 : Int32) = 0))]
      exact ⟨0, _, rfl, Or.inl rfl, rfl⟩
    | some b =>
      cases b with
      | false => exact ⟨0, t, rfl, Or.inl rfl, rfl, rfl⟩
      | true =>
        simp only [mi_b]
        rw [if_neg (show ¬ mj_b2 true = 0 by decide), if_pos h0, eh, mi_b, if_pos h0, show (14 : Int64) = nL 14 from rfl, mi_addL, show (16 : Int64) = nL 16 from rfl, mi_addL, show (2 : Int32) = nI 2 from rfl]
        obtain ⟨v, T, g1, g2, g3⟩ := mq_isSide (N := N) (R := R) hN h h0 i 12 e bits (14 + mq_hd pk) (16 + mq_hd pk) 2 hi he (by omega) (by omega) (by omega) (by omega) hb ht hk' hb'
        rw [g1, mi_b]
        refine ⟨v, T, ?_, g2, g3⟩
        rcases g2 with rfl | rfl <;> rfl
  rw [mf_Model_isPort, mq_isIp hN h, mq_port, mq_pr, mq_pr]
  cases mq_ip pk n with
  | none => exact ⟨0, _, rfl, Or.inl rfl, rfl⟩
  | some b =>
    cases b with
    | false => exact ⟨0, _, rfl, Or.inl rfl, rfl, rfl⟩
    | true =>
      rw [mi_bj, mi_b, if_neg (show ¬ mj_b2 true = 0 by decide), if_pos h0, e1]
      simp only
      rw [if_neg (by omega), if_neg (by omega)]
      cases hf : mi_fld pk n 23 1 with
      | none =>
        rw [mi_rj, mi_b, if_neg (show ¬ (mw_wi t 49 53 1).1 49 53 = 0 from (by decide : ¬ (1 : Int32) = 0))]
        exact ⟨0, _, rfl, Or.inl rfl, rfl⟩
      | some v =>
        have hn := mq_fld_len hf
        rw [mi_rj, mi_b, if_pos h0]
        by_cases c6 : v = nL 6
        · rw [if_pos (show v = (6 : Int64) from c6)]
          simp only [Option.map_some, mq_no, if_true, decide_eq_true c6]
          exact b48 (by omega)
        · rw [if_neg (show ¬ v = (6 : Int64) from c6)]
          simp only [Option.map_some, mq_no, if_true, decide_eq_false c6]
          by_cases c17 : v = nL 17
          · rw [if_pos (show v = (17 : Int64) from c17)]
            simp (decide := true) only [if_false, decide_eq_true c17]
            exact b48 (by omega)
          · rw [if_neg (show ¬ v = (17 : Int64) from c17)]
            simp (decide := true) only [if_false, decide_eq_false c17]
            exact ⟨0, _, rfl, Or.inl rfl, rfl, rfl⟩
end
