/-! .. tests, and whole runs -/
def mi_test (op : Nat) : Prop := (40 ≤ op ∧ op ≤ 43) ∨ (50 ≤ op ∧ op ≤ 53)
def mi_tst (op : Nat) (w a x : Int64) : Bool :=
  if op % 10 = 0 then decide (a = if op < 50 then w else x) else if op % 10 = 1 then decide ((if op < 50 then w else x) < a) else
  if op % 10 = 2 then !decide (a < if op < 50 then w else x) else !decide ((a &&& if op < 50 then w else x) = 0)
theorem mi_passes (N R : Nat) {op : Nat} (h : mi_test op) (w : Int64) (t : mw_T) : mf_Machine_passes N R (nI op) w t = some (.inl (if mi_tst op w (t.2.1 5 2) (t.2.1 5 3) = true then 1 else 0), t) := by
  have : op = 40 ∨ op = 41 ∨ op = 42 ∨ op = 43 ∨ op = 50 ∨ op = 51 ∨ op = 52 ∨ op = 53 := by unfold mi_test at h; omega
  rcases this with rfl | rfl | rfl | rfl | rfl | rfl | rfl | rfl
  all_goals simp (decide := true) only [mf_Machine_passes, mf_Machine_passes_b11, mf_Machine_passes_b26, mf_Machine_passes_b41, mi_tst, ite_true, ite_false, if_true, if_false, decide_eq_true_eq, Bool.not_eq_true', decide_eq_false_iff_not, ite_not]
  all_goals (split <;> rfl)
theorem mi_isSo (N R : Nat) {op : Nat} (h : mi_test op) (w : Int64) (t : mw_T) : mf_Model_isSo N R (nI op) w t = some (.inl (if mi_tst op w (t.2.1 49 54) (t.2.1 49 55) = true then 1 else 0), t) := by
  have : op = 40 ∨ op = 41 ∨ op = 42 ∨ op = 43 ∨ op = 50 ∨ op = 51 ∨ op = 52 ∨ op = 53 := by unfold mi_test at h; omega
  rcases this with rfl | rfl | rfl | rfl | rfl | rfl | rfl | rfl
  all_goals simp (decide := true) only [mf_Model_isSo, mf_Model_isSo_b14, mi_tst, ite_true, ite_false, if_true, if_false, decide_eq_true_eq, Bool.not_eq_true', decide_eq_false_iff_not, ite_not]
  all_goals (split <;> rfl)
abbrev mi_S : Type := Int64 × Int64 × (Nat → Int64)
abbrev mi_P : Type := List (Nat × Nat × Nat × Int64)
def mi_wS (z : Nat × Nat × Int64) (S : mi_S) : mi_S := if z.1 = 0 then (z.2.2, S.2.1, S.2.2) else if z.1 = 1 then (S.1, z.2.2, S.2.2) else (S.1, S.2.1, fun j => if j = z.2.1 then z.2.2 else S.2.2 j)
def mi_rn (fl : Nat → Nat → Option Int64) (len : Nat) (P : mi_P) : Nat → Nat → mi_S → Nat → Option (Int32 × mi_S × Nat)
  | 0, _, _, _ => none
  | f + 1, k, S, d => match P[k]? with
    | none => none
    | some z => if z.1 = 60 then some (z.2.2.2.toInt32, S, d + 1) else if z.1 < 40 then (match mi_act fl len z.1 z.2.2.2 S.1 S.2.1 S.2.2 with
        | none => some (0, S, d + 1)
        | some y => mi_rn fl len P f (k + 1) (mi_wS y S) (d + 1))
      else mi_rn fl len P f (k + (if mi_tst z.1 z.2.2.2 S.1 S.2.1 = true then z.2.1 else z.2.2.1) + 1) S (d + 1)
/-- a program that can be run -/
def mi_okP (P : mi_P) : Prop := P.length ≤ 150 ∧ ∀ k z, P[k]? = some z → mi_u z.2.2.2 ∧ (z.1 = 60 ∨ (mi_plain z.1 ∧ k + 1 < P.length ∧ (z.1 = 9 ∨ z.1 = 10 ∨ z.1 = 11 → mi_n z.2.2.2 < 16)) ∨ (mi_test z.1 ∧ k + z.2.1 + 1 < P.length ∧ k + z.2.2.1 + 1 < P.length))
theorem mi_rn_some {fl : Nat → Nat → Option Int64} {len : Nat} {P : mi_P} (h : mi_okP P) : ∀ (f k : Nat) (S : mi_S) (d : Nat), k < P.length → P.length ≤ k + f → ∃ r, mi_rn fl len P f k S d = some r := by
  intro f
  induction f with
  | zero => intro k S d h1 h2; omega
  | succ f ih =>
    intro k S d h1 h2
    rw [mi_rn, List.getElem?_eq_getElem h1]
    simp only
    obtain ⟨_, h3⟩ := h.2 k _ (List.getElem?_eq_getElem h1)
    rcases h3 with h3 | ⟨h3, h4, _⟩ | ⟨h3, h4, h5⟩
    · rw [if_pos h3]; exact ⟨_, rfl⟩
    · unfold mi_plain at h3
      rw [if_neg (by omega), if_pos (by omega)]
      split
      · exact ⟨_, rfl⟩
      · exact ih _ _ _ h4 (by omega)
    · unfold mi_test at h3
      rw [if_neg (by omega), if_neg (by omega)]
      split
      · exact ih _ _ _ h4 (by omega)
      · exact ih _ _ _ h5 (by omega)
theorem mi_act_ce {fl : Nat → Nat → Option Int64} {len op : Nat} {w a x : Int64} {ce ce' : Nat → Int64} (h : ∀ j, j < 16 → ce j = ce' j) (hc : op = 9 ∨ op = 10 ∨ op = 11 → mi_n w < 16) : mi_act fl len op w a x ce = mi_act fl len op w a x ce' := by
  unfold mi_act
  by_cases c9 : op = 9
  · subst c9; rw [h _ (hc (by omega))]
  by_cases c10 : op = 10
  · subst c10; rw [h _ (hc (by omega))]
  rw [if_neg c9, if_neg c10, if_neg c9, if_neg c10]
def mi_uS (S : mi_S) : Prop := mi_u S.1 ∧ mi_u S.2.1 ∧ ∀ j, j < 16 → mi_u (S.2.2 j)
theorem mi_act_u {pk : Nat → Nat} {n : Nat} {t : mw_T} (h : mi_PktW pk n t) {op : Nat} (hop : mi_plain op) {w : Int64} {S : mi_S} (hw : mi_u w) (hS : mi_uS S) (hc : op = 9 ∨ op = 10 ∨ op = 11 → mi_n w < 16) {z : Nat × Nat × Int64} (e : mi_act (mi_fld pk n) n op w S.1 S.2.1 S.2.2 = some z) : mi_u z.2.2 ∧ (z.1 = 2 → z.2.1 < 16) := by
  have hn := h.1
  have fl : ∀ {p s : Nat} {v : Int64}, s ≤ 4 → mi_fld pk n p s = some v → mi_u v := fun hs e => mi_fld_u h hs e
  have h4 : op ≤ 4 → 2 ^ (op - 2) ≤ 4 := fun ho => Nat.pow_le_pow_right (n := 2) (by omega) (show op - 2 ≤ 2 by omega)
  have h7 : op ≤ 7 → 2 ^ (op - 5) ≤ 4 := fun ho => Nat.pow_le_pow_right (n := 2) (by omega) (show op - 5 ≤ 2 by omega)
  unfold mi_act at e
  split at e
  · cases e; exact ⟨hw, fun h => nomatch h⟩
  split at e
  · cases e; exact ⟨mi_u_nL (by omega), fun h => nomatch h⟩
  split at e
  · rename_i ho
    obtain ⟨v, e1, rfl⟩ := Option.map_eq_some_iff.mp e
    exact ⟨fl (h4 ho) e1, fun h => nomatch h⟩
  split at e
  · rename_i ho
    obtain ⟨v, e1, rfl⟩ := Option.map_eq_some_iff.mp e
    exact ⟨fl (h7 ho) e1, fun h => nomatch h⟩
  split at e
  · obtain ⟨v, e1, rfl⟩ := Option.map_eq_some_iff.mp e
    exact ⟨mi_u_or4 (fl (by omega) e1), fun h => nomatch h⟩
  split at e
  · rename_i ho; cases e; exact ⟨hS.2.2 _ (hc (by omega)), fun h => nomatch h⟩
  split at e
  · rename_i ho; cases e; exact ⟨hS.2.2 _ (hc (by omega)), fun h => nomatch h⟩
  split at e
  · rename_i ho; cases e; exact ⟨hS.1, fun _ => hc (by omega)⟩
  split at e
  · cases e; exact ⟨hS.1, fun h => nomatch h⟩
  split at e
  · obtain ⟨v, e1, rfl⟩ := Option.map_eq_some_iff.mp e
    exact ⟨mi_cmb_u hS.1 hw e1, fun h => nomatch h⟩
  · obtain ⟨v, e1, rfl⟩ := Option.map_eq_some_iff.mp e
    exact ⟨mi_cmb_u hS.1 hS.2.1 e1, fun h => nomatch h⟩
theorem mi_wS_u {z : Nat × Nat × Int64} {S : mi_S} (hz : mi_u z.2.2) (hS : mi_uS S) : mi_uS (mi_wS z S) := by
  unfold mi_wS
  split
  · exact ⟨hz, hS.2.1, hS.2.2⟩
  split
  · exact ⟨hS.1, hz, hS.2.2⟩
  · refine ⟨hS.1, hS.2.1, fun j hj => ?_⟩
    show mi_u (if j = z.2.1 then z.2.2 else S.2.2 j)
    split
    · exact hz
    · exact hS.2.2 j hj
/-- the program of a filter, in the class and in the reference -/
def mi_PrgC (P : mi_P) (o : Nat) (t : mw_T) : Prop := t.1 (16 + o) 4 = nI (150 - P.length) ∧ ∀ k z, P[k]? = some z → t.1 (17 + o) (150 - P.length + k) = nI z.1 ∧ t.1 (18 + o) (150 - P.length + k) = nI z.2.1 ∧ t.1 (19 + o) (150 - P.length + k) = nI z.2.2.1 ∧ t.2.1 (20 + o) (150 - P.length + k) = z.2.2.2
def mi_PrgM (P : mi_P) (t : mw_T) : Prop := t.1 49 36 = nI P.length ∧ ∀ k z, P[k]? = some z → t.1 76 k = nI z.1 ∧ t.1 77 k = nI z.2.1 ∧ t.1 78 k = nI z.2.2.1 ∧ t.2.1 79 k = z.2.2.2
def mi_stC (S : mi_S) (d : Nat) (t : mw_T) : Prop := t.2.1 5 2 = S.1 ∧ t.2.1 5 3 = S.2.1 ∧ (∀ j, j < 16 → t.2.1 6 j = S.2.2 j) ∧ t.1 5 4 = nI d
def mi_stM (S : mi_S) (d : Nat) (t : mw_T) : Prop := t.2.1 49 54 = S.1 ∧ t.2.1 49 55 = S.2.1 ∧ (∀ j, j < 16 → t.2.1 84 j = S.2.2 j) ∧ t.1 49 51 = nI d
theorem mi_PrgC_rows {P : mi_P} {o : Nat} {t T : mw_T} (h : ∀ q i, 7 ≤ q → T.1 q i = t.1 q i ∧ T.2.1 q i = t.2.1 q i) (hp : mi_PrgC P o t) : mi_PrgC P o T := by
  refine ⟨(h _ _ (by omega)).1.trans hp.1, fun k z hz => ?_⟩
  obtain ⟨a1, a2, a3, a4⟩ := hp.2 k z hz
  exact ⟨(h _ _ (by omega)).1.trans a1, (h _ _ (by omega)).1.trans a2, (h _ _ (by omega)).1.trans a3, (h _ _ (by omega)).2.trans a4⟩
theorem mi_wC_1 (z : Nat × Nat × Int64) (t : mw_T) : (mi_wC z t).1 = t.1 := by
  unfold mi_wC; split
  · rfl
  split <;> rfl
theorem mi_wC_rows (z : Nat × Nat × Int64) (t : mw_T) (q i : Nat) (hq : 7 ≤ q) : (mi_wC z t).2.1 q i = t.2.1 q i := by
  unfold mi_wC; split
  · rw [mi_wl, if_neg (by omega)]
  split
  · rw [mi_wl, if_neg (by omega)]
  · rw [mi_wl, if_neg (by omega)]
theorem mi_wC_st {z : Nat × Nat × Int64} {S : mi_S} {d : Nat} {t : mw_T} (h : mi_stC S d t) : mi_stC (mi_wS z S) d (mi_wC z t) := by
  obtain ⟨h1, h2, h3, h4⟩ := h
  unfold mi_wS mi_wC
  split
  · exact ⟨rfl, h2, h3, h4⟩
  split
  · exact ⟨h1, rfl, h3, h4⟩
  · refine ⟨h1, h2, fun j hj => ?_, h4⟩
    rw [mi_wl, if_pos rfl]
    show _ = if j = z.2.1 then z.2.2 else S.2.2 j
    split
    · rfl
    · exact h3 j hj
theorem mi_pget {P : mi_P} {o k : Nat} (hl : P.length ≤ 150) (hk : k < P.length) {t : mw_T} (hp : mi_PrgC P o t) : (t.1 (16 + o) 4) + nI k = nI (150 - P.length + k) ∧ mj_in (nI (150 - P.length + k)) 150 = true ∧ (nI (150 - P.length + k)).toNatClampNeg = 150 - P.length + k := by
  rw [hp.1, mi_add]
  exact ⟨rfl, mi_inT (by omega) (by omega), mi_tn (by omega)⟩
theorem mi_exec (N R o : Nat) (hN : 6 ≤ N) {pk : Nat → Nat} {n : Nat} {P : mi_P} (hP : mi_okP P) : ∀ (f k i : Nat) (S : mi_S) (d g : Nat) (t : mw_T) (v : Int32) (S' : mi_S) (d' : Nat), mi_PktW pk n t → mi_PrgC P o t → mi_stC S d t → mi_uS S → i ≤ k → k < P.length →
    mi_rn (mi_fld pk n) n P f k S d = some (v, S', d') → ∃ T, mf_Machine_execute_l8 N R o (f + g) (nI k) (nI i) t = some (.inl v, T) ∧ mi_stC S' d' T := by
  intro f
  induction f with
  | zero => intro k i S d g t v S' d' _ _ _ _ _ _ e; cases e
  | succ f ih =>
    intro k i S d g t v S' d' hpk hpr hst hu hik hk e
    have hl := hP.1
    obtain ⟨z, hz⟩ : ∃ z, P[k]? = some z := ⟨_, List.getElem?_eq_getElem hk⟩
    obtain ⟨p1, p2, p3⟩ := mi_pget hl hk hpr
    obtain ⟨r1, r2, r3, r4⟩ := hpr.2 k z hz
    obtain ⟨hw, hz3⟩ := hP.2 k z hz
    rw [mi_rn, hz] at e
    simp only at e
    have hpr' : mi_PrgC P o (mw_wi t 5 4 (t.1 5 4 + 1)) := mi_PrgC_rows (t := t) (fun q i hq => ⟨by rw [mi_wi, if_neg (by omega)], rfl⟩) hpr
    have hpk' : mi_PktW pk n (mw_wi t 5 4 (t.1 5 4 + 1)) := hpk
    have hst' : mi_stC S (d + 1) (mw_wi t 5 4 (t.1 5 4 + 1)) := ⟨hst.1, hst.2.1, hst.2.2.1, by rw [mi_wi, if_pos rfl, if_pos rfl, hst.2.2.2, show (1 : Int32) = nI 1 from rfl, mi_add]⟩
    have hsz : (150 : Int32) - (t.1 (16 + o) 4) = nI P.length := by
      rw [hpr.1, show (150 : Int32) = nI 150 from rfl, mi_sub (by omega)]; congr 1; omega
    rw [show f + 1 + g = (f + g) + 1 by omega, me_Machine_execute_l8, mf_Machine_execute_l8B, if_pos (show nI i < (150 : Int32) from mi_ltT (b := 150) (by omega) (by omega)), mf_Program_size, mi_b, hsz, if_pos (mi_ltT (by omega) hk), mf_Program_operation, p1, if_pos p2, p3, r1, mi_b, mf_Program_number, p1, if_pos p2, p3, r4, mi_b]
    rcases hz3 with h3 | ⟨h3, h4, h5⟩ | ⟨h3, h4, h5⟩
    · rw [if_pos h3] at e
      cases e
      rw [h3, if_pos (show nI 60 = (60 : Int32) from rfl)]
      exact ⟨_, rfl, hst'⟩
    · have h37 : z.1 ≤ 37 := by unfold mi_plain at h3; omega
      rw [if_neg (by omega), if_pos (by omega)] at e
      have hact := mi_act_ce (fl := mi_fld pk n) (len := n) (op := z.1) (w := z.2.2.2) (a := S.1) (x := S.2.1) (ce := (mw_wi t 5 4 (t.1 5 4 + 1)).2.1 6) (ce' := S.2.2) hst'.2.2.1 h5
      have huc : mi_uC (mw_wi t 5 4 (t.1 5 4 + 1)) := ⟨by rw [hst'.1]; exact hu.1, by rw [hst'.2.1]; exact hu.2.1, fun j hj => by rw [hst'.2.2.1 j hj]; exact hu.2.2 j hj⟩
      have hwk := mi_works N R hN hpk' h3 hw h5 huc
      rw [hst'.1, hst'.2.1, hact] at hwk
      rw [if_neg (show ¬ nI z.1 = (60 : Int32) from mi_neT (b := 60) (by omega) (by omega) (by omega)), if_pos (show nI z.1 < (40 : Int32) from mi_ltT (b := 40) (by omega) (by omega)), hwk]
      cases ea : mi_act (mi_fld pk n) n z.1 z.2.2.2 S.1 S.2.1 S.2.2 with
      | none =>
        rw [ea] at e
        cases e
        exact ⟨_, rfl, hst'⟩
      | some y =>
        rw [ea] at e
        simp only at e
        obtain ⟨u1, u2⟩ := mi_act_u hpk h3 hw hu h5 ea
        rw [mi_oC, mi_b, if_neg (by decide), mf_Machine_execute_b108, mi_l1, mi_add, mi_add]
        refine ih (k + 1) (i + 1) _ _ g _ v S' d' ?_ ?_ (mi_wC_st hst') (mi_wS_u u1 hu) (by omega) h4 e
        · obtain ⟨q1, q2, q3, q4⟩ := hpk'
          exact ⟨q1, by rw [mi_wC_1]; exact q2, by rw [mi_wC_1]; exact q3, fun j hj => by rw [mi_wC_1]; exact q4 j hj⟩
        · exact mi_PrgC_rows (fun q j hq => ⟨by rw [mi_wC_1], mi_wC_rows _ _ _ _ hq⟩) hpr'
    · have h40 : 40 ≤ z.1 ∧ z.1 ≤ 53 := by unfold mi_test at h3; omega
      rw [if_neg (by omega), if_neg (by omega)] at e
      have hps := mi_passes N R h3 z.2.2.2 (mw_wi t 5 4 (t.1 5 4 + 1))
      rw [hst'.1, hst'.2.1] at hps
      obtain ⟨p1', p2', p3'⟩ := mi_pget hl hk hpr'
      obtain ⟨r1', r2', r3', r4'⟩ := hpr'.2 k z hz
      rw [if_neg (show ¬ nI z.1 = (60 : Int32) from mi_neT (b := 60) (by omega) (by omega) (by omega)), if_neg (show ¬ nI z.1 < (40 : Int32) from mi_ltF (b := 40) (by omega) (by omega)), hps, mi_b]
      by_cases ct : mi_tst z.1 z.2.2.2 S.1 S.2.1 = true
      · rw [if_pos ct] at e ⊢
        rw [if_neg (by decide), mf_Program_wayIfSo, p1', if_pos p2', p3', r2', mi_b, mf_Machine_execute_b90, mf_Machine_execute_b108, mi_l1, mi_add, mi_add, mi_add]
        exact ih _ _ _ _ g _ v S' d' hpk' hpr' hst' hu (by omega) h4 e
      · rw [if_neg ct] at e ⊢
        rw [if_pos rfl, mf_Program_wayIfNot, p1', if_pos p2', p3', r3', mi_b, mf_Machine_execute_b90, mf_Machine_execute_b108, mi_l1, mi_add, mi_add, mi_add]
        exact ih _ _ _ _ g _ v S' d' hpk' hpr' hst' hu (by omega) h5 e
