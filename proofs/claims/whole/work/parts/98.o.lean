/-! CODE of the reference: instructions put behind those that are there, with labels -/
def mi_lab (h f : Int32) (j : Nat) : Int32 := if j = 0 then -3 else if j = 1 then -4 else if j = 2 then h else f
/-- the tree, the labels and the starts stay -/
def mi_km (t T : mw_T) : Prop := ∀ q, (51 ≤ q ∧ q ≤ 58) ∨ q = 62 → ∀ i, T.1 q i = t.1 q i ∧ T.2.1 q i = t.2.1 q i
def mi_sM (t : mw_T) (c : Nat) (F : Bool) : Prop := t.1 49 37 = mj_b2 F ∧ (F = false → t.1 49 35 = nI c ∧ c ≤ 148)
def mi_bd (c : Nat) (F : Bool) (L : mi_P) : Bool := F || (!mi_okl L || decide (148 < c + L.length))
def mi_gs (t : mw_T) (c : Nat) (h f : Int32) (L : mi_P) : Prop := ∀ k z, L[k]? = some z → t.1 72 (c + k) = nI z.1 ∧ t.1 73 (c + k) = mi_lab h f z.2.1 ∧ t.1 74 (c + k) = mi_lab h f z.2.2.1 ∧ t.2.1 75 (c + k) = z.2.2.2
def mi_gk (c : Nat) (t T : mw_T) : Prop := ∀ i, i < c → T.1 72 i = t.1 72 i ∧ T.1 73 i = t.1 73 i ∧ T.1 74 i = t.1 74 i ∧ T.2.1 75 i = t.2.1 75 i
def mi_em (t : mw_T) (c : Nat) (F : Bool) (h f : Int32) (L : mi_P) (X : mw_X Unit) : Prop :=
  ∃ T, X = some (.inl (), T) ∧ mi_km t T ∧ mi_sM T (c + L.length) (mi_bd c F L) ∧ (mi_bd c F L = false → mi_gs T c h f L ∧ mi_gk c t T)
theorem mi_km_rf (t : mw_T) : mi_km t t := fun _ _ _ => ⟨rfl, rfl⟩
theorem mi_km_tr {t u T : mw_T} (h : mi_km t u) (g : mi_km u T) : mi_km t T := fun q hq i => ⟨(g q hq i).1.trans (h q hq i).1, (g q hq i).2.trans (h q hq i).2⟩
theorem mi_bd_app (c : Nat) (F : Bool) (A B : mi_P) : mi_bd c F (A ++ B) = mi_bd (c + A.length) (mi_bd c F A) B := by
  unfold mi_bd
  rw [mi_okl_app, List.length_append]
  cases F with
  | true => rfl
  | false =>
    cases mi_okl A <;> cases mi_okl B <;> simp [decide_eq_decide]
    · by_cases h : 148 < c + A.length
      · simp [h]; omega
      · simp [h, Nat.add_assoc]
theorem mi_em_0 {t : mw_T} {c : Nat} {F : Bool} {h f : Int32} (hs : mi_sM t c F) : mi_em t c F h f [] (some (.inl (), t)) := by
  have hb : mi_bd c F [] = F := by
    unfold mi_bd
    cases F with
    | true => rfl
    | false =>
      have := (hs.2 rfl).2
      simp [mi_okl]; omega
  refine ⟨t, rfl, mi_km_rf t, by rw [hb]; exact hs, fun _ => ⟨fun k z hz => by simp at hz, fun i _ => ⟨rfl, rfl, rfl, rfl⟩⟩⟩
theorem mi_em_b {t : mw_T} {c : Nat} {F : Bool} {h f : Int32} {A B : mi_P} {X : mw_X Unit} {g : mw_T → mw_X Unit} (h1 : mi_em t c F h f A X) (h2 : ∀ T, mi_km t T → mi_sM T (c + A.length) (mi_bd c F A) → mi_em T (c + A.length) (mi_bd c F A) h f B (g T)) : mi_em t c F h f (A ++ B) (mw_b X (fun _ T => g T)) := by
  obtain ⟨T, rfl, e2, e3, e4⟩ := h1
  obtain ⟨U, f1, f2, f3, f4⟩ := h2 T e2 e3
  rw [mi_b, f1]
  refine ⟨U, rfl, mi_km_tr e2 f2, ?_, fun hb => ?_⟩
  · rw [List.length_append, mi_bd_app, ← Nat.add_assoc]; exact f3
  · rw [mi_bd_app] at hb
    have hA : mi_bd c F A = false := by
      cases hh : mi_bd c F A with
      | false => rfl
      | true => rw [hh] at hb; cases hb
    obtain ⟨g1, g2⟩ := e4 hA
    obtain ⟨k1, k2⟩ := f4 hb
    refine ⟨fun k z hz => ?_, fun i hi => ?_⟩
    · by_cases hk : k < A.length
      · rw [List.getElem?_append_left hk] at hz
        obtain ⟨r1, r2, r3, r4⟩ := g1 k z hz
        obtain ⟨u1, u2, u3, u4⟩ := k2 (c + k) (by omega)
        exact ⟨u1.trans r1, u2.trans r2, u3.trans r3, u4.trans r4⟩
      · rw [List.getElem?_append_right (by omega)] at hz
        have := k1 _ z hz
        rw [show c + A.length + (k - A.length) = c + k by omega] at this
        exact this
    · obtain ⟨r1, r2, r3, r4⟩ := g2 i hi
      obtain ⟨u1, u2, u3, u4⟩ := k2 i (by omega)
      exact ⟨u1.trans r1, u2.trans r2, u3.trans r3, u4.trans r4⟩
section
variable {N R : Nat}
theorem mi_em_1 {t : mw_T} {c : Nat} {F : Bool} (h f : Int32) (hs : mi_sM t c F) (op : Nat) (hop : op < 100) (j1 j2 : Nat) (x w : Int64) (hw : x &&& (4294967295 : Int64) = w) (hc : op = 9 ∨ op = 10 ∨ op = 11 → ∃ m, m < 100000 ∧ x = nL m) : mi_em t c F h f [(op, j1, j2, w)] (mf_Model_emit N R (nI op) x (mi_lab h f j1) (mi_lab h f j2) t) := by
  -- too long
  have bad : mi_bd c F [(op, j1, j2, w)] = true → mf_Model_emit N R (nI op) x (mi_lab h f j1) (mi_lab h f j2) t = mf_Model_emit_b44 N R (nI op) x (mi_lab h f j1) (mi_lab h f j2) t → mi_em t c F h f [(op, j1, j2, w)] (mf_Model_emit N R (nI op) x (mi_lab h f j1) (mi_lab h f j2) t) := by
    intro hb e
    rw [e, mf_Model_emit_b44, mf_Model_emit_b49, if_pos (Or.inr rfl), if_neg (by decide)]
    refine ⟨_, rfl, fun q hq i => ⟨by rw [mi_wi, if_neg (by omega)], rfl⟩, ?_, fun hh => by rw [hb] at hh; cases hh⟩
    rw [hb]
    exact ⟨rfl, fun h => by cases h⟩
  have good : mi_bd c F [(op, j1, j2, w)] = false → mf_Model_emit N R (nI op) x (mi_lab h f j1) (mi_lab h f j2) t = mf_Model_emit_b48 N R (nI op) x (mi_lab h f j1) (mi_lab h f j2) t → mi_em t c F h f [(op, j1, j2, w)] (mf_Model_emit N R (nI op) x (mi_lab h f j1) (mi_lab h f j2) t) := by
    intro hb e
    have hF : F = false := by
      cases F with
      | false => rfl
      | true => cases hb
    subst hF
    obtain ⟨s1, s2⟩ := hs.2 rfl
    have hlen : ¬ 148 < c + 1 := by
      intro hh
      unfold mi_bd at hb
      simp only [List.length_cons, List.length_nil, Nat.zero_add, Bool.or_eq_false_iff, decide_eq_false_iff_not] at hb
      exact hb.2.2 hh
    have hin : mj_in (nI c) 150 = true := mi_inT (by omega) (by omega)
    rw [e, mf_Model_emit_b48, mf_Model_emit_b49, if_pos (Or.inl rfl), if_pos rfl, s1, if_pos hin, if_pos hin, if_pos hin, if_pos hin, mi_tn (by omega), hw]
    refine ⟨_, rfl, fun q hq i => ⟨?_, ?_⟩, ?_, fun _ => ⟨fun k z hz => ?_, fun i hi => ?_⟩⟩
    · rw [mi_wi, if_neg (by omega), mi_wi, if_neg (by omega), mi_wi, if_neg (by omega), mi_wl1, mi_wi, if_neg (by omega), mi_wi, if_neg (by omega)]
    · rw [mi_wi2, mi_wi2, mi_wi2, mi_wl, if_neg (by omega), mi_wi2, mi_wi2]
    · rw [hb]
      refine ⟨?_, fun _ => ⟨?_, by simp only [List.length_cons, List.length_nil]; omega⟩⟩
      · rw [mi_wi, if_pos rfl, if_neg (by decide), mi_wi, if_neg (by decide), mi_wi, if_neg (by decide), mi_wl1, mi_wi, if_neg (by decide), mi_wi, if_pos rfl, if_pos rfl]; rfl
      · rw [mi_wi, if_pos rfl, if_pos rfl, show (1 : Int32) = nI 1 from rfl, mi_add]; rfl
    · rcases k with _ | k
      · simp only [List.getElem?_cons_zero, Option.some.injEq] at hz
        subst hz
        simp only [Nat.add_zero]
        refine ⟨?_, ?_, ?_, ?_⟩
        · rw [mi_wi, if_neg (by decide), mi_wi, if_neg (by decide), mi_wi, if_neg (by decide), mi_wl1, mi_wi, if_pos rfl, if_pos rfl]
        · rw [mi_wi, if_neg (by decide), mi_wi, if_neg (by decide), mi_wi, if_pos rfl, if_pos rfl]
        · rw [mi_wi, if_neg (by decide), mi_wi, if_pos rfl, if_pos rfl]
        · rw [mi_wi2, mi_wi2, mi_wi2, mi_wl, if_pos rfl, if_pos rfl]
      · simp at hz
    · refine ⟨?_, ?_, ?_, ?_⟩
      · rw [mi_wi, if_neg (by decide), mi_wi, if_neg (by decide), mi_wi, if_neg (by decide), mi_wl1, mi_wi, if_pos rfl, if_neg (by omega), mi_wi, if_neg (by decide)]
      · rw [mi_wi, if_neg (by decide), mi_wi, if_neg (by decide), mi_wi, if_pos rfl, if_neg (by omega), mi_wl1, mi_wi, if_neg (by decide), mi_wi, if_neg (by decide)]
      · rw [mi_wi, if_neg (by decide), mi_wi, if_pos rfl, if_neg (by omega), mi_wi, if_neg (by decide), mi_wl1, mi_wi, if_neg (by decide), mi_wi, if_neg (by decide)]
      · rw [mi_wi2, mi_wi2, mi_wi2, mi_wl, if_pos rfl, if_neg (by omega), mi_wi2, mi_wi2]
  cases F with
  | true =>
    refine bad rfl ?_
    rw [mf_Model_emit, if_neg (by rw [hs.1]; decide)]
  | false =>
    obtain ⟨s1, s2⟩ := hs.2 rfl
    have h37 : t.1 49 37 = 0 := hs.1
    by_cases hlen : c < 148
    · by_cases hcell : op = 9 ∨ op = 10 ∨ op = 11
      · obtain ⟨m, hm, rfl⟩ := hc hcell
        rw [mi_maskL, Nat.mod_eq_of_lt (by omega)] at hw
        subst hw
        have hb : mi_bd c false [(op, j1, j2, nL m)] = decide (15 < m) := by
          unfold mi_bd mi_okl
          simp only [List.all_cons, List.all_nil, Bool.and_true, List.length_cons, List.length_nil, Nat.zero_add, Bool.false_or]
          rw [mi_n_nL (by omega), decide_eq_true hcell, decide_eq_false (show ¬ 148 < c + 1 by omega), Bool.or_false, Bool.not_true, Bool.false_or, ← decide_not]
          exact decide_eq_decide.mpr (by omega)
        have e36 : mf_Model_emit N R (nI op) (nL m) (mi_lab h f j1) (mi_lab h f j2) t = mf_Model_emit_b36 N R (nI op) (nL m) (mi_lab h f j1) (mi_lab h f j2) t := by
          rw [mf_Model_emit, if_pos h37, s1, if_pos (show nI c < (148 : Int32) from mi_ltT (b := 148) (by omega) hlen)]
          rcases hcell with rfl | rfl | rfl <;> rfl
        by_cases hm15 : 15 < m
        · refine bad (by rw [hb]; exact decide_eq_true hm15) ?_
          rw [e36, mf_Model_emit_b36, if_pos (show (15 : Int64) < nL m from mi_ltLT (a := 15) (by omega) hm15)]
        · refine good (by rw [hb]; exact decide_eq_false hm15) ?_
          rw [e36, mf_Model_emit_b36, if_neg (show ¬ (15 : Int64) < nL m from mi_ltLF (a := 15) (by omega) (by omega))]
      · refine good ?_ ?_
        · unfold mi_bd mi_okl
          simp only [List.all_cons, List.all_nil, Bool.and_true, List.length_cons, List.length_nil, Nat.zero_add, Bool.false_or]
          rw [decide_eq_false hcell, decide_eq_false (show ¬ 148 < c + 1 by omega)]
          rfl
        · rw [mf_Model_emit, if_pos h37, s1, if_pos (show nI c < (148 : Int32) from mi_ltT (b := 148) (by omega) hlen), if_neg (show ¬ nI op = (9 : Int32) from mi_neT (b := 9) (by omega) (by omega) (by omega)), if_neg (show ¬ nI op = (10 : Int32) from mi_neT (b := 10) (by omega) (by omega) (by omega)), if_neg (show ¬ nI op = (11 : Int32) from mi_neT (b := 11) (by omega) (by omega) (by omega))]
    · refine bad ?_ ?_
      · unfold mi_bd
        simp only [List.length_cons, List.length_nil, Nat.zero_add, Bool.false_or, Bool.or_eq_true, decide_eq_true_eq]
        exact Or.inr (by omega)
      · rw [mf_Model_emit, if_pos h37, s1, if_neg (show ¬ nI c < (148 : Int32) from mi_ltF (b := 148) (by omega) (by omega))]
theorem mi_em_p {t : mw_T} {c : Nat} {F : Bool} (h f : Int32) (hs : mi_sM t c F) (op : Nat) (hop : op < 100) (x w : Int64) (hw : x &&& (4294967295 : Int64) = w) (hc : op = 9 ∨ op = 10 ∨ op = 11 → ∃ m, m < 100000 ∧ x = nL m) : mi_em t c F h f [(op, 0, 0, w)] (mf_Model_plain N R (nI op) x t) := by
  rw [mf_Model_plain, mi_bid]
  exact mi_em_1 h f hs op hop 0 0 x w hw hc
theorem mi_nmask {n : Nat} (h : n < 4294967296) : nL n &&& (4294967295 : Int64) = nL n := by rw [mi_maskL, Nat.mod_eq_of_lt h]
theorem mt_m_ip {t : mw_T} {c : Nat} {F : Bool} (h f : Int32) (hs : mi_sM t c F) : mi_em t c F h f (mt_gP 1 0) (mf_Model_emitIp N R f t) := by
  rw [mf_Model_emitIp]
  refine mi_em_b (A := [(3, 0, 0, nL 12)]) (mi_em_p h f hs 3 (by omega) (nL 12) (nL 12) (mi_nmask (by omega)) (by omega)) (fun T hk hT => ?_)
  rw [mi_bid]
  exact mi_em_1 h f hT 40 (by omega) 0 3 (nL 2048) (nL 2048) (mi_nmask (by omega)) (by omega)
theorem mt_m_proto {t : mw_T} {c : Nat} {F : Bool} (h f : Int32) (hs : mi_sM t c F) (p jy : Nat) (hp : p = 1 ∨ p = 2 ∨ p = 3) : mi_em t c F h f (mt_gP p jy) (mf_Model_emitProtocol N R (nI p) (mi_lab h f jy) f t) := by
  rw [mf_Model_emitProtocol]
  have first : ∀ {L : mi_P} {g : mw_T → mw_X Unit}, (∀ T, mi_km t T → mi_sM T (c + 1) (mi_bd c F [(3, 0, 0, nL 12)]) → mi_em T (c + 1) (mi_bd c F [(3, 0, 0, nL 12)]) h f L (g T)) → mi_em t c F h f ([(3, 0, 0, nL 12)] ++ L) (mw_b (mf_Model_plain N R (3 : Int32) (12 : Int64) t) (fun _ t1 => g t1)) := fun hg => mi_em_b (mi_em_p h f hs 3 (by omega) (nL 12) (nL 12) (mi_nmask (by omega)) (by omega)) hg
  rcases hp with rfl | rfl | rfl
  · rw [mt_gP, if_pos rfl]
    refine first (L := [(40, jy, 3, nL 2048)]) (fun T hk hT => ?_)
    rw [if_pos (show nI 1 = (1 : Int32) from rfl), mf_Model_emitProtocol_b25]
    have := mi_em_b (B := []) (mi_em_1 (N := N) (R := R) h f hT 40 (by omega) jy 3 (nL 2048) (nL 2048) (mi_nmask (by omega)) (by omega)) (g := fun T => some (.inl (), T)) (fun U hk hU => mi_em_0 hU)
    rw [List.append_nil] at this
    exact this
  · rw [mt_gP, if_neg (by decide)]
    refine first (L := [(40, 0, 3, nL 2048), (2, 0, 0, nL 23), (40, jy, 3, mq_no 2)]) (fun T hk hT => ?_)
    rw [if_neg (show ¬ nI 2 = (1 : Int32) by decide), mf_Model_emitProtocol_b25]
    refine mi_em_b (A := [(40, 0, 3, nL 2048)]) (mi_em_1 (N := N) (R := R) h f hT 40 (by omega) 0 3 (nL 2048) (nL 2048) (mi_nmask (by omega)) (by omega)) (fun U hk2 hU => ?_)
    rw [if_neg (show ¬ nI 2 = (1 : Int32) by decide)]
    refine mi_em_b (A := [(2, 0, 0, nL 23)]) (mi_em_p h f hU 2 (by omega) (nL 23) (nL 23) (mi_nmask (by omega)) (by omega)) (fun V hk3 hV => ?_)
    rw [if_pos (show nI 2 = (2 : Int32) from rfl), mf_Model_emitProtocol_b60, mi_bid]
    exact mi_em_1 (N := N) (R := R) h f hV 40 (by omega) jy 3 (nL 6) (nL 6) (mi_nmask (by omega)) (by omega)
  · rw [mt_gP, if_neg (by decide)]
    refine first (L := [(40, 0, 3, nL 2048), (2, 0, 0, nL 23), (40, jy, 3, mq_no 3)]) (fun T hk hT => ?_)
    rw [if_neg (show ¬ nI 3 = (1 : Int32) by decide), mf_Model_emitProtocol_b25]
    refine mi_em_b (A := [(40, 0, 3, nL 2048)]) (mi_em_1 (N := N) (R := R) h f hT 40 (by omega) 0 3 (nL 2048) (nL 2048) (mi_nmask (by omega)) (by omega)) (fun U hk2 hU => ?_)
    rw [if_neg (show ¬ nI 3 = (1 : Int32) by decide)]
    refine mi_em_b (A := [(2, 0, 0, nL 23)]) (mi_em_p h f hU 2 (by omega) (nL 23) (nL 23) (mi_nmask (by omega)) (by omega)) (fun V hk3 hV => ?_)
    rw [if_neg (show ¬ nI 3 = (2 : Int32) by decide), mf_Model_emitProtocol_b60, mi_bid]
    exact mi_em_1 (N := N) (R := R) h f hV 40 (by omega) jy 3 (nL 17) (nL 17) (mi_nmask (by omega)) (by omega)
theorem mt_m_whole {t : mw_T} {c : Nat} {F : Bool} (h f : Int32) (hs : mi_sM t c F) : mi_em t c F h f mt_gW (mf_Model_emitWhole N R f t) := by
  rw [mf_Model_emitWhole]
  refine mi_em_b (A := [(3, 0, 0, nL 20)]) (mi_em_p h f hs 3 (by omega) (nL 20) (nL 20) (mi_nmask (by omega)) (by omega)) (fun T hk hT => ?_)
  rw [mi_bid]
  exact mi_em_1 h f hT 43 (by omega) 3 0 (nL 8191) (nL 8191) (mi_nmask (by omega)) (by omega)
end
