/-! .. the reference's run, and the law's call of run -/
theorem mi_wM_1 (z : Nat × Nat × Int64) (t : mw_T) : (mi_wM z t).1 = t.1 := by
  unfold mi_wM; split
  · rfl
  split <;> rfl
theorem mi_wM_79 (z : Nat × Nat × Int64) (t : mw_T) (i : Nat) : (mi_wM z t).2.1 79 i = t.2.1 79 i := by
  unfold mi_wM; split
  · rfl
  split <;> rfl
theorem mi_wM_st {z : Nat × Nat × Int64} {S : mi_S} {d : Nat} {t : mw_T} (h : mi_stM S d t) : mi_stM (mi_wS z S) d (mi_wM z t) := by
  obtain ⟨h1, h2, h3, h4⟩ := h
  unfold mi_wS mi_wM
  split
  · exact ⟨rfl, h2, h3, h4⟩
  split
  · exact ⟨h1, rfl, h3, h4⟩
  · refine ⟨h1, h2, fun j hj => ?_, h4⟩
    rw [mi_wl, if_pos rfl]
    show _ = if j = z.2.1 then z.2.2 else S.2.2 j
    split
    · rfl
    · exact h3 j hj
theorem mi_PrgM_eq {P : mi_P} {t T : mw_T} (h1 : T.1 49 36 = t.1 49 36) (h2 : ∀ i, T.1 76 i = t.1 76 i) (h3 : ∀ i, T.1 77 i = t.1 77 i) (h4 : ∀ i, T.1 78 i = t.1 78 i) (h5 : ∀ i, T.2.1 79 i = t.2.1 79 i) (hp : mi_PrgM P t) : mi_PrgM P T :=
  ⟨h1.trans hp.1, fun k z hz => ⟨(h2 k).trans (hp.2 k z hz).1, (h3 k).trans (hp.2 k z hz).2.1, (h4 k).trans (hp.2 k z hz).2.2.1, (h5 k).trans (hp.2 k z hz).2.2.2⟩⟩
theorem mi_mexec (N R : Nat) (hN : 6 ≤ N) {pk : Nat → Nat} {n : Nat} {P : mi_P} (hP : mi_okP P) : ∀ (f k : Nat) (S : mi_S) (d g : Nat) (t : mw_T) (v : Int32) (S' : mi_S) (d' : Nat), mi_PktW pk n t → mi_PrgM P t → mi_stM S d t → t.1 49 53 = 0 → mi_uS S → k < P.length →
    mi_rn (mi_fld pk n) n P f k S d = some (v, S', d') → ∃ T, mf_Model_run_l61 N R (f + 1 + g) (nI k) t = some (.inl v, T) ∧ mi_stM S' d' T ∧ T.1 49 0 = t.1 49 0 := by
  intro f
  induction f with
  | zero => intro k S d g t v S' d' _ _ _ _ _ _ e; cases e
  | succ f ih =>
    intro k S d g t v S' d' hpk hpr hst h0 hu hk e
    have hl := hP.1
    obtain ⟨z, hz⟩ : ∃ z, P[k]? = some z := ⟨_, List.getElem?_eq_getElem hk⟩
    obtain ⟨r1, r2, r3, r4⟩ := hpr.2 k z hz
    obtain ⟨hw, hz3⟩ := hP.2 k z hz
    rw [mi_rn, hz] at e
    simp only at e
    have hpk' : mi_PktW pk n (mw_wi t 49 51 (t.1 49 51 + 1)) := hpk
    have hpr' : mi_PrgM P (mw_wi t 49 51 (t.1 49 51 + 1)) := hpr
    have hst' : mi_stM S (d + 1) (mw_wi t 49 51 (t.1 49 51 + 1)) := ⟨hst.1, hst.2.1, hst.2.2.1, by rw [mi_wi, if_pos rfl, if_pos rfl, hst.2.2.2, show (1 : Int32) = nI 1 from rfl, mi_add]⟩
    have hin : mj_in (nI k) 150 = true := mi_inT (by omega) (by omega)
    rw [show f + 1 + 1 + g = (f + 1 + g) + 1 by omega, me_Model_run_l61, mf_Model_run_l61B, if_pos hin, mi_tn (by omega), r1]
    rcases hz3 with h3 | ⟨h3, h4, h5⟩ | ⟨h3, h4, h5⟩
    · rw [if_pos h3] at e
      cases e
      rw [h3, if_pos (show nI 60 = (60 : Int32) from rfl), mf_Model_run_b151, if_pos h0, if_pos hin, mi_tn (by omega), r4]
      exact ⟨_, rfl, hst', rfl⟩
    · have h37 : z.1 ≤ 37 := by unfold mi_plain at h3; omega
      rw [if_neg (by omega), if_pos (by omega)] at e
      have hact := mi_act_ce (fl := mi_fld pk n) (len := n) (op := z.1) (w := z.2.2.2) (a := S.1) (x := S.2.1) (ce := (mw_wi t 49 51 (t.1 49 51 + 1)).2.1 84) (ce' := S.2.2) hst'.2.2.1 h5
      have huc : mi_uM (mw_wi t 49 51 (t.1 49 51 + 1)) := ⟨by rw [hst'.1]; exact hu.1, by rw [hst'.2.1]; exact hu.2.1, fun j hj => by rw [hst'.2.2.1 j hj]; exact hu.2.2 j hj⟩
      have hwk := mi_doIt N R hN hpk' h0 h3 hw h5 huc
      rw [hst'.1, hst'.2.1, hact] at hwk
      rw [if_neg (show ¬ nI z.1 = (60 : Int32) from mi_neT (b := 60) (by omega) (by omega) (by omega)), if_pos h0, if_pos hin, if_pos hin, if_pos (show nI z.1 < (40 : Int32) from mi_ltT (b := 40) (by omega) (by omega)), r4, hwk]
      cases ea : mi_act (mi_fld pk n) n z.1 z.2.2.2 S.1 S.2.1 S.2.2 with
      | none =>
        rw [ea] at e
        cases e
        rw [mi_oM, mi_b, mf_Model_run_b145, mi_l1, mi_add]
        have hb : ∀ T : mw_T, T.1 49 53 = 1 → mf_Model_run_b151 N R (nI (k + 1)) T = some (.inl 0, T) := by
          intro T hT
          rw [mf_Model_run_b151, if_neg (by rw [hT]; decide)]
        refine ⟨mw_wi (mw_wi t 49 51 (t.1 49 51 + 1)) 49 53 1, ?_, hst', rfl⟩
        rw [show f + 1 + g = (f + g) + 1 by omega, me_Model_run_l61, mf_Model_run_l61B, if_pos (mi_inT (by omega) (by omega)), hb _ rfl, if_neg (show ¬ (mw_wi (mw_wi t 49 51 (t.1 49 51 + 1)) 49 53 1).1 49 53 = 0 from (by decide : ¬ (1 : Int32) = 0))]
        split <;> rfl
      | some y =>
        rw [ea] at e
        simp only at e
        obtain ⟨u1, u2⟩ := mi_act_u hpk h3 hw hu h5 ea
        rw [mi_oM, mi_b, mf_Model_run_b145, mi_l1, mi_add]
        have a1 : mi_PktW pk n (mi_wM y (mw_wi t 49 51 (t.1 49 51 + 1))) := by
          obtain ⟨q1, q2, q3, q4⟩ := hpk'
          exact ⟨q1, by rw [mi_wM_1]; exact q2, by rw [mi_wM_1]; exact q3, fun j hj => by rw [mi_wM_1]; exact q4 j hj⟩
        have a2 : mi_PrgM P (mi_wM y (mw_wi t 49 51 (t.1 49 51 + 1))) := mi_PrgM_eq (t := mw_wi t 49 51 (t.1 49 51 + 1)) (by rw [mi_wM_1]) (fun i => by rw [mi_wM_1]) (fun i => by rw [mi_wM_1]) (fun i => by rw [mi_wM_1]) (fun i => mi_wM_79 _ _ _) hpr'
        obtain ⟨T, e1, e2, e3⟩ := ih (k + 1) _ _ g (mi_wM y (mw_wi t 49 51 (t.1 49 51 + 1))) v S' d' a1 a2 (mi_wM_st hst') (by rw [mi_wM_1]; exact h0) (mi_wS_u u1 hu) h4 e
        exact ⟨T, e1, e2, e3.trans (by rw [mi_wM_1]; rfl)⟩
    · have h40 : 40 ≤ z.1 ∧ z.1 ≤ 53 := by unfold mi_test at h3; omega
      rw [if_neg (by omega), if_neg (by omega)] at e
      have hps := mi_isSo N R h3 z.2.2.2 (mw_wi t 49 51 (t.1 49 51 + 1))
      rw [hst'.1, hst'.2.1] at hps
      rw [if_neg (show ¬ nI z.1 = (60 : Int32) from mi_neT (b := 60) (by omega) (by omega) (by omega)), if_pos h0, if_pos hin, if_pos hin, if_neg (show ¬ nI z.1 < (40 : Int32) from mi_ltF (b := 40) (by omega) (by omega)), r4, hps, mi_b]
      by_cases ct : mi_tst z.1 z.2.2.2 S.1 S.2.1 = true
      · rw [if_pos ct] at e ⊢
        rw [if_neg (by decide), if_pos hin, show (mw_wi t 49 51 (t.1 49 51 + 1)).1 77 k = nI z.2.1 from r2, mf_Model_run_b143, mf_Model_run_b145, mi_l1, mi_add, mi_add]
        exact ih _ _ _ g _ v S' d' hpk' hpr' hst' h0 hu h4 e
      · rw [if_neg ct] at e ⊢
        rw [if_pos rfl, if_pos hin, show (mw_wi t 49 51 (t.1 49 51 + 1)).1 78 k = nI z.2.2.1 from r3, mf_Model_run_b143, mf_Model_run_b145, mi_l1, mi_add, mi_add]
        exact ih _ _ _ g _ v S' d' hpk' hpr' hst' h0 hu h5 e
/-- cells put to 0 -/
def mi_zero (r : Nat) : Nat → Nat → mw_T → mw_T
  | 0, _, t => t
  | m + 1, k, t => mi_zero r m (k + 1) (mw_wl t r k 0)
theorem mi_zero1 (r : Nat) : ∀ (m k : Nat) (t : mw_T), (mi_zero r m k t).1 = t.1 := by
  intro m
  induction m with
  | zero => intro k t; rfl
  | succ m ih => intro k t; rw [mi_zero, ih]; rfl
theorem mi_zeroL (r : Nat) : ∀ (m k : Nat) (t : mw_T) (q j : Nat), (mi_zero r m k t).2.1 q j = if q = r ∧ k ≤ j ∧ j < k + m then 0 else t.2.1 q j := by
  intro m
  induction m with
  | zero => intro k t q j; rw [mi_zero, if_neg (by omega)]
  | succ m ih =>
    intro k t q j
    rw [mi_zero, ih, mi_wl]
    by_cases hq : q = r
    · by_cases hj : j = k
      · rw [if_neg (by omega), if_pos hq, if_pos hj, if_pos (by omega)]
      · by_cases hr : k + 1 ≤ j ∧ j < k + 1 + m
        · rw [if_pos (by omega), if_pos (by omega)]
        · rw [if_neg (by omega), if_pos hq, if_neg hj, if_neg (by omega)]
    · rw [if_neg (fun h => hq h.1), if_neg hq, if_neg (fun h => hq h.1)]
theorem mi_reset (N R : Nat) : ∀ (m k f : Nat) (t : mw_T), k + m = 16 → mf_Machine_reset_l17 N R (m + 1 + f) (nI k) t = some (.inl (), mi_zero 6 m k t) := by
  intro m
  induction m with
  | zero =>
    intro k f t hk
    rw [show 0 + 1 + f = f + 1 by omega, me_Machine_reset_l17, mf_Machine_reset_l17B, if_neg (show ¬ nI k < (16 : Int32) from mi_ltF (b := 16) (by omega) (by omega))]
    rfl
  | succ m ih =>
    intro k f t hk
    rw [show m + 1 + 1 + f = (m + 1 + f) + 1 by omega, me_Machine_reset_l17, mf_Machine_reset_l17B, if_pos (show nI k < (16 : Int32) from mi_ltT (b := 16) (by omega) (by omega)), if_pos (mi_inT (by omega) (by omega)), mi_tn (by omega), mi_l1, mi_add]
    exact ih (k + 1) f _ (by omega)
theorem mi_mreset (N R : Nat) : ∀ (m k f : Nat) (t : mw_T), k + m = 16 → mf_Model_run_l30 N R (m + 1 + f) (nI k) t = mf_Model_run_l61 N R N (0 : Int32) (mw_wi (mw_wi (mi_zero 84 m k t) 49 53 (0 : Int32)) 49 51 (0 : Int32)) := by
  intro m
  induction m with
  | zero =>
    intro k f t hk
    rw [show 0 + 1 + f = f + 1 by omega, me_Model_run_l30, mf_Model_run_l30B, if_neg (show ¬ nI k < (16 : Int32) from mi_ltF (b := 16) (by omega) (by omega))]
    rfl
  | succ m ih =>
    intro k f t hk
    rw [show m + 1 + 1 + f = (m + 1 + f) + 1 by omega, me_Model_run_l30, mf_Model_run_l30B, if_pos (show nI k < (16 : Int32) from mi_ltT (b := 16) (by omega) (by omega)), if_pos (mi_inT (by omega) (by omega)), mi_tn (by omega), mi_l1, mi_add]
    exact ih (k + 1) f _ (by omega)
/-- the program of the filter: none yet, or one that can be run; the reference's root says which -/
def mi_Prg (P : mi_P) (o : Nat) (t : mw_T) : Prop := mi_okP P ∧ mi_PrgC P o t ∧ mi_PrgM P t ∧ (P = [] → t.1 49 25 = -1) ∧ (P ≠ [] → ∃ r, r < 170 ∧ t.1 49 25 = nI r)
