/-! THE CLASS's PARSER: conditions and the whole text -/
section
variable {N R o : Nat}
theorem mk_idb (X : mw_X Int32) : mw_b X (fun v6 t6 => (some (.inl v6, t6))) = X := by
  rcases X with _ | ⟨v | q, T⟩ <;> rfl
theorem mk_addrC {M : mk_L} (hM : mk_wT M) (hN : 200 ≤ N) {d b : Nat} {L : mk_L} {t : mw_T} (hs : mk_ST o t M L d b) : mk_rs (mf_Parser_address N R o t) (mk_addr L) (fun y v T => v = nL y.1 ∧ mk_Q o t M d b y.2 T) := by
  obtain ⟨n, rfl⟩ : ∃ n, N = n + 4 := ⟨N - 4, by omega⟩
  rw [mf_Parser_address, mk_addr, show (255 : Int64) = nL 255 from rfl]
  refine mk_rs_b (mk_number hM hs 255 (by omega)) (fun y1 v1 T1 e1 h1 => ?_)
  obtain ⟨rfl, q1⟩ := h1
  have b1 := mk_num_val e1
  rw [me_Parser_address_l10, mf_Parser_address_l10B, if_pos (by decide), show (46 : Int32) = nI 46 from rfl, show (255 : Int64) = nL 255 from rfl]
  refine mk_rs_b (mk_expect hM q1.1 46 (by omega) (by omega)) (fun L1 _ T2 _ q2 => ?_)
  refine mk_rs_b (mk_number hM q2.1 255 (by omega)) (fun y2 v2 T3 e2 h2 => ?_)
  obtain ⟨rfl, q3⟩ := h2
  have b2 := mk_num_val e2
  rw [mi_shl8 (by omega) (by omega), me_Parser_address_l10, mf_Parser_address_l10B, if_pos (by decide), show (46 : Int32) = nI 46 from rfl, show (255 : Int64) = nL 255 from rfl]
  refine mk_rs_b (mk_expect hM q3.1 46 (by omega) (by omega)) (fun L2 _ T4 _ q4 => ?_)
  refine mk_rs_b (mk_number hM q4.1 255 (by omega)) (fun y3 v3 T5 e3 h3 => ?_)
  obtain ⟨rfl, q5⟩ := h3
  have b3 := mk_num_val e3
  rw [mi_shl8 (by omega) (by omega), me_Parser_address_l10, mf_Parser_address_l10B, if_pos (by decide), show (46 : Int32) = nI 46 from rfl, show (255 : Int64) = nL 255 from rfl]
  refine mk_rs_b (mk_expect hM q5.1 46 (by omega) (by omega)) (fun L3 _ T6 _ q6 => ?_)
  refine mk_rs_b (mk_number hM q6.1 255 (by omega)) (fun y4 v4 T7 e4 h4 => ?_)
  obtain ⟨rfl, q7⟩ := h4
  have b4 := mk_num_val e4
  rw [mi_shl8 (by omega) (by omega), me_Parser_address_l10, mf_Parser_address_l10B, if_neg (by decide)]
  exact mk_rs_ok rfl ⟨rfl, mk_Q_tr q1 (mk_Q_tr q2 (mk_Q_tr q3 (mk_Q_tr q4 (mk_Q_tr q5 (mk_Q_tr q6 q7)))))⟩
theorem mk_W_kp {t u T : mw_T} {M : mk_L} {d b : Nat} {Y : mt_T × mk_L} {v : Int32} (h : mk_kp o b t u) (hW : mk_W o u M d b Y v T) : mk_W o t M d b Y v T := ⟨hW.1, hW.2.1, hW.2.2.1, mk_kp_tr h hW.2.2.2 (Nat.le_refl _)⟩
theorem mk_mask {bits : Nat} (h : bits ≤ 32) : ((4294967295 : Int64) <<< (((32 : Int64) - nL bits).toInt32.toInt64 &&& 63)) &&& (4294967295 : Int64) = mq_mask bits := by
  unfold mq_mask
  have e1 : ((32 : Int64) - nL bits).toInt32 = (32 : Int32) - nI bits := by
    have e2 : (32 : Int64) - nL bits = nL (32 - bits) := by
      have : nL (32 - bits) + nL bits = 32 := by rw [mi_addL, show 32 - bits + bits = 32 by omega]; rfl
      rw [← this]; exact Int64.add_sub_cancel _ _
    rw [e2, mi_LI, show (32 : Int32) = nI 32 from rfl, mi_sub h]
  rw [e1]
theorem mk_primC {M : mk_L} (hM : mk_wT M) (hN : 200 ≤ N) {d b a : Nat} (ha : a = 1 ∨ a = 2 ∨ a = 3) {L : mk_L} {t : mw_T} (hb : b + L.length ≤ 160) (hs : mk_ST o t M L d b) : mk_rs (mf_Parser_endPrimitive N R o (nI (mq_ce a)) t) (mk_prim a L) (mk_W o t M d b) := by
  rw [mf_Parser_endPrimitive, show (10 : Int32) = nI 10 from rfl, mk_accept hM hs 10 (by omega), mi_b, mk_prim]
  by_cases h10 : mk_hd L = 10
  · have hl := mk_len (L := L) (by omega)
    obtain ⟨hA1, hA2⟩ := mk_ST_adv hs (by omega)
    rw [if_pos h10, if_pos h10, if_pos h10, if_neg (by decide)]
    refine mk_rs_b (mk_addrC hM hN hA1) (fun y v T e hT => ?_)
    obtain ⟨rfl, hT⟩ := hT
    obtain ⟨v', T', e', hW⟩ := mk_leaf (N := N) (R := R) hT.1 (by omega) 10 a y.1 0 (4294967295 : Int64) (by omega) (fun _ => rfl) (nL y.1) (fun _ _ => rfl)
    rw [show mf_Tree_addLeaf N R o (6 : Int32) (nI (mq_ce a)) (nL y.1) (4294967295 : Int64) T = _ from e', mi_b]
    exact mk_rs_ok rfl (mk_W_kp (mk_kp_tr hA2 hT.2 (Nat.le_refl _)) hW)
  rw [if_neg h10, if_neg h10, if_neg h10, if_pos rfl, show (11 : Int32) = nI 11 from rfl, mk_accept hM hs 11 (by omega), mi_b]
  by_cases h11 : mk_hd L = 11
  · have hl := mk_len (L := L) (by omega)
    obtain ⟨hA1, hA2⟩ := mk_ST_adv hs (by omega)
    rw [if_pos h11, if_pos h11, if_pos h11, if_neg (by decide)]
    refine mk_rs_b (mk_addrC hM hN hA1) (fun y v T e hT => ?_)
    obtain ⟨rfl, hT⟩ := hT
    rw [show (47 : Int32) = nI 47 from rfl]
    refine mk_rs_b (mk_expect hM hT.1 47 (by omega) (by omega)) (fun L1 _ T2 _ q2 => ?_)
    rw [show mf_Parser_numberUpTo N R o (32 : Int64) T2 = mf_Parser_numberUpTo N R o (nL 32) T2 from rfl]
    refine mk_rs_b (mk_number hM q2.1 32 (by omega)) (fun y2 v2 T3 e2 h2 => ?_)
    obtain ⟨rfl, q3⟩ := h2
    have b2 := mk_num_val e2
    rw [mk_mask b2]
    obtain ⟨v', T', e', hW⟩ := mk_leaf (N := N) (R := R) q3.1 (by omega) 11 a y.1 y2.1 (mq_mask y2.1) (by omega) (fun _ => rfl) (nL y.1) (fun _ _ => rfl)
    rw [show mf_Tree_addLeaf N R o (7 : Int32) (nI (mq_ce a)) (nL y.1) (mq_mask y2.1) T3 = _ from e', mi_b]
    exact mk_rs_ok rfl (mk_W_kp (mk_kp_tr hA2 (mk_kp_tr hT.2 (mk_kp_tr q2.2 q3.2 (Nat.le_refl _)) (Nat.le_refl _)) (Nat.le_refl _)) hW)
  rw [if_neg h11, if_neg h11, if_neg h11, if_pos rfl, show (12 : Int32) = nI 12 from rfl]
  by_cases h12 : mk_hd L = 12
  · have hl := mk_len (L := L) (by omega)
    rw [if_pos h12]
    have hex := mk_expect (N := N) (R := R) hM hs 12 (by omega) (by omega)
    rw [mk_ex, if_pos h12] at hex
    refine mk_rs_b (r := some L.tail) (k := fun L1 => (mk_num 65535 L1).bind fun v => some (mt_nd 12 a v.1 0 mt_0 mt_0, v.2)) hex (fun L1 _ T1 e1 q1 => ?_)
    cases e1
    rw [show (65535 : Int64) = nL 65535 from rfl]
    refine mk_rs_b (mk_number hM q1.1 65535 (by omega)) (fun y v2 T3 e2 h2 => ?_)
    obtain ⟨rfl, q3⟩ := h2
    obtain ⟨v', T', e', hW⟩ := mk_leaf (N := N) (R := R) q3.1 (by omega) 12 a y.1 0 (4294967295 : Int64) (by omega) (fun _ => rfl) (nL y.1) (fun _ _ => rfl)
    rw [show mf_Tree_addLeaf N R o (8 : Int32) (nI (mq_ce a)) (nL y.1) (4294967295 : Int64) T3 = _ from e', mi_b]
    exact mk_rs_ok rfl (mk_W_kp (mk_kp_tr q1.2 q3.2 (Nat.le_refl _)) hW)
  · rw [if_neg h12]
    have hex := mk_expect (N := N) (R := R) hM hs 12 (by omega) (by omega)
    rw [mk_ex, if_neg h12] at hex
    exact mk_rs_b (k := fun _ => none) hex (fun _ _ _ e _ => by cases e)
def mk_W2 (o : Nat) (t : mw_T) (M : mk_L) (d b : Nat) (Y : mk_P2) (v : Int32) (T : mw_T) : Prop := mk_W o t M d b (Y.1.1, Y.2) v T
theorem mk_rs_two {t : mw_T} {M : mk_L} {d b : Nat} {X : mw_X Int32} {r : Option (mt_T × mk_L)} (h : mk_rs X r (mk_W o t M d b)) : mk_rs X (r.map mk_two) (mk_W2 o t M d b) := by
  refine ⟨fun y hy => ?_, fun hn => h.2 (by cases r with | none => rfl | some x => cases hn)⟩
  rw [Option.map_eq_some_iff] at hy
  obtain ⟨z, hz, rfl⟩ := hy
  exact h.1 z hz
def mk_SF (N R o : Nat) (M : mk_L) (f : Nat) : Prop := ∀ (d b : Nat) (L : mk_L) (t : mw_T), d ≤ 8 → 9 ≤ d + f → b + L.length ≤ 160 → mk_ST o t M L d b → mk_rs (mf_Parser_filterR N R o f t) (mk_fil R f d L) (mk_W2 o t M d b)
theorem mk_uwC {M : mk_L} {f : Nat} (hM : mk_wT M) (hN : 200 ≤ N) (hR : 54 ≤ R) (ih : mk_SF N R o M f) {d b : Nat} {L : mk_L} {t : mw_T} (hd : d ≤ 8) (hf : 8 ≤ d + f) (hb : b + L.length ≤ 160) (hs : mk_ST o t M L d b) : mk_rs (mf_Parser_unitWithoutNot N R (mf_Parser_filterR N R o f) o t) (mk_uw R (mk_fil R f) d L) (mk_W2 o t M d b) := by
  obtain ⟨_, ⟨p, h4, h5⟩, _⟩ := id hs
  obtain ⟨hlt, _⟩ := mk_hd_lt hM h4
  rw [mf_Parser_unitWithoutNot, show (40 : Int32) = nI 40 from rfl, mk_accept hM hs 40 (by omega), mi_b]
  unfold mk_uw
  by_cases h40 : mk_hd L = 40
  · have hl := mk_len (L := L) (by omega)
    obtain ⟨hA1, hA2⟩ := mk_ST_adv hs (by omega)
    rw [if_pos h40, if_pos h40, if_pos h40, if_neg (by decide)]
    by_cases hd8 : d = 8
    · rw [if_pos hd8, (mk_enter hA1 hd).1 hd8, mi_bx]
      exact mk_rs_no rfl
    · rw [if_neg hd8]
      obtain ⟨T2, e2, hT2⟩ := (mk_enter (N := N) (R := R) hA1 hd).2 hd8
      rw [e2, mi_b]
      refine mk_rs_b (ih (d + 1) b L.tail T2 (by omega) (by omega) (by omega) hT2.1) (fun X v T3 e3 hT3 => ?_)
      obtain ⟨w1, w2, w3, w4⟩ := hT3
      refine mk_rs_b (mk_leave hM w2 41 (by omega) (by omega)) (fun L1 _ T4 e4 hT4 => mk_rs_ok rfl ⟨w1, hT4.1, mt_RC_kp hT4.2 _ _ (Nat.le_refl _) w3, ?_⟩)
      exact mk_kp_tr hA2 (mk_kp_tr hT2.2 (mk_kp_tr w4 hT4.2 (by omega)) (Nat.le_refl _)) (Nat.le_refl _)
  rw [if_neg h40, if_neg h40, if_neg h40, if_pos rfl, mk_kind hs, mi_b, mk_protocolOf _ hlt, mi_bs]
  -- what comes when it is no protocol alone
  have rest : ¬ ((mk_hd L = 3 ∨ mk_hd L = 4 ∨ mk_hd L = 5) ∧ mk_hd L.tail ≠ 91) → mk_rs (mf_Parser_unitWithoutNot_b85 N R (mf_Parser_filterR N R o f) o t) (if mk_hd L = 8 then (mk_prim 1 L.tail).map mk_two else if mk_hd L = 9 then (mk_prim 2 L.tail).map mk_two else
      if mk_hd L = 10 ∨ mk_hd L = 11 ∨ mk_hd L = 12 then (mk_prim 3 L).map mk_two else (mk_rel R d L).map mk_two) (mk_W2 o t M d b) := by
    intro _
    rw [mf_Parser_unitWithoutNot_b85, show (8 : Int32) = nI 8 from rfl, mk_accept hM hs 8 (by omega), mi_b]
    by_cases h8 : mk_hd L = 8
    · have hl := mk_len (L := L) (by omega)
      obtain ⟨hA1, hA2⟩ := mk_ST_adv hs (by omega)
      rw [if_pos h8, if_pos h8, if_pos h8, if_neg (by decide), mf_Parser_unitWithoutNot_b112, if_neg (by decide), mf_Parser_unitWithoutNot_b134, mk_idb]
      exact mk_rs_two (mk_rs_w (mk_primC (a := 1) hM hN (by omega) (by omega) hA1) (fun y v T _ hW => mk_W_kp hA2 hW))
    rw [if_neg h8, if_neg h8, if_neg h8, if_pos rfl, show (9 : Int32) = nI 9 from rfl, mk_accept hM hs 9 (by omega), mi_b]
    by_cases h9 : mk_hd L = 9
    · have hl := mk_len (L := L) (by omega)
      obtain ⟨hA1, hA2⟩ := mk_ST_adv hs (by omega)
      rw [if_pos h9, if_pos h9, if_pos h9, if_neg (by decide), mf_Parser_unitWithoutNot_b112, if_neg (by decide), mf_Parser_unitWithoutNot_b134, mk_idb]
      exact mk_rs_two (mk_rs_w (mk_primC (a := 2) hM hN (by omega) (by omega) hA1) (fun y v T _ hW => mk_W_kp hA2 hW))
    rw [if_neg h9, if_neg h9, if_neg h9, if_pos rfl, mf_Parser_unitWithoutNot_b112, if_pos rfl, mk_kind hs, mi_b, mf_Parser_isEndWord]
    by_cases h10 : mk_hd L = 10
    · rw [if_pos (show nI (mk_hd L) = (10 : Int32) by rw [h10]; rfl), mi_bs, if_neg (by decide), if_pos (Or.inl h10), mf_Parser_unitWithoutNot_b134, mk_idb]
      exact mk_rs_two (mk_primC (a := 3) hM hN (by omega) hb hs)
    rw [if_neg (show ¬ nI (mk_hd L) = (10 : Int32) from mi_neT (b := 10) (by omega) (by omega) h10)]
    by_cases h11 : mk_hd L = 11
    · rw [if_pos (show nI (mk_hd L) = (11 : Int32) by rw [h11]; rfl), mi_bs, if_neg (by decide), if_pos (Or.inr (Or.inl h11)), mf_Parser_unitWithoutNot_b134, mk_idb]
      exact mk_rs_two (mk_primC (a := 3) hM hN (by omega) hb hs)
    rw [if_neg (show ¬ nI (mk_hd L) = (11 : Int32) from mi_neT (b := 11) (by omega) (by omega) h11)]
    by_cases h12 : mk_hd L = 12
    · rw [if_pos (show nI (mk_hd L) = (12 : Int32) by rw [h12]; rfl), mi_bs, if_neg (by decide), if_pos (Or.inr (Or.inr h12)), mf_Parser_unitWithoutNot_b134, mk_idb]
      exact mk_rs_two (mk_primC (a := 3) hM hN (by omega) hb hs)
    rw [if_neg (show ¬ nI (mk_hd L) = (12 : Int32) from mi_neT (b := 12) (by omega) (by omega) h12), mi_bs, if_pos rfl, if_neg (by omega), mk_idb]
    exact mk_rs_two (mk_relC hM hN hR hd hb hs)
  by_cases hp : mk_hd L = 3 ∨ mk_hd L = 4 ∨ mk_hd L = 5
  · have hpr : mk_pr (mk_hd L) ≠ 9 ∧ (mk_pr (mk_hd L) = 1 ∨ mk_pr (mk_hd L) = 2 ∨ mk_pr (mk_hd L) = 3) := by
      rcases hp with e | e | e <;> (rw [e]; decide)
    have hpos : (0 : Int32) < nI (mq_cp (mk_pr (mk_hd L))) := by
      rcases hp with e | e | e <;> (rw [e]; decide)
    rw [if_neg hpr.1, if_pos hpos, mk_kind1 hs, mi_b]
    obtain ⟨hA1, hA2⟩ := mk_ST_adv hs (by omega)
    have hlt2 : mk_hd L.tail < 100000 := by
      obtain ⟨_, ⟨p', h4', _⟩, _⟩ := hA1
      exact (mk_hd_lt hM h4').1
    by_cases h91 : mk_hd L.tail = 91
    · rw [if_pos (show nI (mk_hd L.tail) = (91 : Int32) by rw [h91]; rfl), if_neg (fun h => h.2 h91)]
      exact rest (fun h => h.2 h91)
    · have hl := mk_len (L := L) (by omega)
      rw [if_neg (show ¬ nI (mk_hd L.tail) = (91 : Int32) from mi_neT (b := 91) (by omega) (by omega) h91), if_pos ⟨hp, h91⟩]
      obtain ⟨v', T', e', hW⟩ := mk_leaf (N := N) (R := R) hA1 (by omega) 9 (mk_pr (mk_hd L)) 0 0 (0 : Int64) (by omega) (fun h => by omega) (0 : Int64) (fun _ h => absurd rfl h)
      rw [show mf_Tree_addLeaf N R o (5 : Int32) (nI (mq_cp (mk_pr (mk_hd L)))) (0 : Int64) (0 : Int64) (mw_wi t (21 + o) 2 ((t.1 (21 + o) 2) + (1 : Int32))) = _ from e', mi_b]
      exact mk_rs_ok rfl (mk_W_kp hA2 hW)
  · have hnp : ¬ (0 : Int32) < (if mk_pr (mk_hd L) = 9 then -1 else nI (mq_cp (mk_pr (mk_hd L)))) := by
      by_cases h6 : mk_hd L = 6
      · rw [h6]; decide
      · rw [if_pos (mk_pr_eq9 (by omega))]; decide
    rw [if_neg hnp, if_neg (fun h => hp h.1)]
    exact rest (fun h => hp h.1)
theorem mk_b36C {M : mk_L} {f : Nat} (hM : mk_wT M) (hN : 200 ≤ N) (hR : 54 ≤ R) (ih : mk_SF N R o M f) {d b : Nat} {L : mk_L} {t t0 : mw_T} (hd : d ≤ 8) (hf : 8 ≤ d + f) (hb : b + L.length ≤ 160) (hs : mk_ST o t M L d b) (hkp : mk_kp o b t0 t) (tu : Bool) (htu : tu = true → b + L.length < 160) : mk_rs (mf_Parser_unit_b36 N R (mf_Parser_filterR N R o f) o (mj_b2 tu) t) ((mk_uw R (mk_fil R f) d L).bind fun X => some ((if tu then mt_nd 7 0 0 0 X.1.1 mt_0 else X.1.1, X.1.2), X.2)) (mk_W2 o t0 M d b) := by
  rw [mf_Parser_unit_b36]
  refine mk_rs_b (mk_uwC hM hN hR ih hd hf hb hs) (fun X v T e hT => ?_)
  obtain ⟨w1, w2, w3, w4⟩ := hT
  simp only at w1 w2 w3
  obtain ⟨c1, c2, c3, c4, _⟩ := mk_uw_ok (fun d L X h => (mk_fil_ok _ _ _ _ h).1) e
  simp only [Bool.false_eq_true, if_false, Nat.add_zero] at c3
  have hpX := mt_C_pos c1
  cases tu with
  | false =>
    rw [if_pos (show mj_b2 false = 0 from rfl)]
    exact mk_rs_ok rfl ⟨w1, w2, w3, mk_kp_tr hkp w4 (Nat.le_refl _)⟩
  | true =>
    have := htu rfl
    rw [if_neg (by decide), mk_addJoint w2.2.2.2 (by omega), mi_b]
    refine mk_rs_ok rfl (mk_W_nd (u := T) (l := X.1.1) (r := mt_0) (by rw [mt_sz_0, Nat.add_zero]; exact w2) (mk_kp_tr hkp w4 (Nat.le_refl _)) w3 (by rw [mt_RC]; trivial; simp) (mk_aj_nx _ _ _ _ _ _) ?_)
    simp only [mt_nC, mt_sz_0, Nat.add_zero]
    refine ⟨?_, ?_, fun _ _ => ?_, fun h => by omega, fun h => by omega, fun h => by omega, fun h => by omega⟩
    · rw [mk_aj_i, if_neg (by omega), if_neg (by omega), if_neg (by omega), if_neg (by omega), if_pos ⟨rfl, rfl⟩]; rfl
    · rw [mk_aj_i, if_neg (by omega), if_neg (by omega), if_neg (by omega), if_pos ⟨rfl, rfl⟩]; rfl
    · rw [mk_aj_i, if_neg (by omega), if_neg (by omega), if_pos ⟨rfl, rfl⟩, w1]
theorem mk_unC {M : mk_L} {f : Nat} (hM : mk_wT M) (hN : 200 ≤ N) (hR : 54 ≤ R) (ih : mk_SF N R o M f) {d b : Nat} {t0 : mw_T} (hd : d ≤ 8) (hf : 8 ≤ d + f) : ∀ (L : mk_L) (tu : Bool) (F i : Nat) (t : mw_T), L.length < F → i + L.length ≤ 160 → b + L.length ≤ 160 → (tu = true → b + L.length < 160) → mk_ST o t M L d b → mk_kp o b t0 t → mk_rs (mf_Parser_unit_l4 N R (mf_Parser_filterR N R o f) o F (mj_b2 tu) (nI i) t) (mk_un R (mk_fil R f) d tu L) (mk_W2 o t0 M d b) := by
  intro L
  induction L with
  | nil =>
    intro tu F i t hF hi hb htu hs hkp
    obtain ⟨F, rfl⟩ : ∃ k, F = k + 1 := ⟨F - 1, by omega⟩
    have hB := mk_b36C hM hN hR ih hd hf hb hs hkp tu htu
    rw [me_Parser_unit_l4, mf_Parser_unit_l4B, mk_un]
    by_cases hi160 : i = 160
    · rw [if_neg (show ¬ nI i < (160 : Int32) from mi_ltF (b := 160) (by omega) (by omega))]
      exact hB
    · rw [if_pos (show nI i < (160 : Int32) from mi_ltT (b := 160) (by omega) (by simp only [List.length_nil] at hi; omega)), show (15 : Int32) = nI 15 from rfl, mk_accept hM hs 15 (by omega), mi_b, if_neg (show ¬ mk_hd [] = 15 by decide), if_neg (show ¬ mk_hd [] = 15 by decide), if_pos rfl]
      exact hB
  | cons z L ihL =>
    intro tu F i t hF hi hb htu hs hkp
    obtain ⟨F, rfl⟩ : ∃ k, F = k + 1 := ⟨F - 1, by omega⟩
    rw [List.length_cons] at hF hi hb htu
    rw [me_Parser_unit_l4, mf_Parser_unit_l4B, mk_un, if_pos (show nI i < (160 : Int32) from mi_ltT (b := 160) (by omega) (by omega)), show (15 : Int32) = nI 15 from rfl, mk_accept hM hs 15 (by omega), mi_b]
    by_cases hz : z.1 = 15
    · have hh : mk_hd (z :: L) = 15 := hz
      obtain ⟨hA1, hA2⟩ := mk_ST_adv hs (by omega)
      rw [if_pos hz, if_pos hh, if_pos hh, if_neg (by decide)]
      have hn : mk_rs (mf_Parser_unit_b29 N R (mf_Parser_filterR N R o f) (mf_Parser_unit_l4 N R (mf_Parser_filterR N R o f) o F) o (nI i) (mj_b2 (!tu)) (mk_adv o t)) (mk_un R (mk_fil R f) d (!tu) L) (mk_W2 o t0 M d b) := by
        rw [mf_Parser_unit_b29, mi_l1, mi_add]
        exact ihL (!tu) F (i + 1) (mk_adv o t) (by omega) (by omega) (by omega) (fun _ => by omega) hA1 (mk_kp_tr hkp hA2 (Nat.le_refl _))
      have hn' : mk_rs (mf_Parser_unit_b29 N R (mf_Parser_filterR N R o f) (mf_Parser_unit_l4 N R (mf_Parser_filterR N R o f) o F) o (nI i) (mj_b2 (!tu)) (mk_adv o t)) ((mk_un R (mk_fil R f) d (!tu) L).bind fun X => some ((X.1.1, mt_nd 7 0 0 0 X.1.2 mt_0), X.2)) (mk_W2 o t0 M d b) := by
        refine ⟨fun y hy => ?_, fun hy => hn.2 ?_⟩
        · rw [Option.bind_eq_some_iff] at hy
          obtain ⟨x, hx, hxy⟩ := hy
          cases hxy
          exact hn.1 x hx
        · cases hr : mk_un R (mk_fil R f) d (!tu) L with
          | none => rfl
          | some x => rw [hr] at hy; cases hy
      cases tu with
      | false => rw [if_pos (show mj_b2 false = 0 from rfl)]; exact hn'
      | true => rw [if_neg (by decide)]; exact hn'
    · have hh : ¬ mk_hd (z :: L) = 15 := hz
      rw [if_neg hz, if_neg hh, if_neg hh, if_pos rfl]
      exact mk_b36C hM hN hR ih hd hf (by rw [List.length_cons]; omega) hs hkp tu (by rw [List.length_cons]; exact htu)
/-- a loop over parts with a word between them -/
theorem mk_jnC {M : mk_L} (hM : mk_wT M) {k j : Nat} (hk : (k = 13 ∧ j = 5) ∨ (k = 14 ∧ j = 6)) {d b : Nat} {t0 : mw_T} {U : mw_T → mw_X Int32} {u : mk_L → Option mk_P2} (hu : ∀ L X, u L = some X → mk_ok2 false L X) (hU : ∀ (b' : Nat) (L : mk_L) (t : mw_T), b' + L.length ≤ 160 → mk_ST o t M L d b' → mk_rs (U t) (u L) (mk_W2 o t M d b'))
    {Lp : Nat → Int32 → Int32 → mw_T → mw_X Int32} (hLp : ∀ n x1 x2 t, Lp (n + 1) x1 x2 t = (if x2 < (160 : Int32) then (mw_b (mf_Parser_accept N R o (nI k) t) (fun v2 t2 => (if v2 = 0 then (some (.inl x1, t2)) else (mw_b (U t2) (fun v3 t3 => (mw_b (mf_Tree_addJoint N R o (nI (mt_ck j)) (0 : Int32) x1 v3 t3) (fun v4 t4 => (Lp n v4 (x2 + Int32.ofInt (1)) t4)))))))) else (some (.inl x1, t)))) :
    ∀ (g F i : Nat) (X : mt_T × mt_T) (L : mk_L) (t : mw_T), mt_C X.1 → L.length < g → L.length < F → i + L.length ≤ 160 → b + mt_sz X.1 + L.length ≤ 160 → mk_ST o t M L d (b + mt_sz X.1) → mt_RC o t b X.1 → mk_kp o b t0 t → mk_rs (Lp F (nI (b + mt_sz X.1 - 1)) (nI i) t) (mk_jn k j u g X L) (mk_W2 o t0 M d b) := by
  intro g
  induction g with
  | zero => intro F i X L t _ h; omega
  | succ g ih =>
    intro F i X L t hX hg hF hi hb hs hR hkp
    obtain ⟨F, rfl⟩ : ∃ k, F = k + 1 := ⟨F - 1, by omega⟩
    have hpX := mt_C_pos hX
    rw [hLp, mk_jn]
    by_cases hi160 : i = 160
    · have hL : L = [] := List.length_eq_zero_iff.mp (by omega)
      subst hL
      rw [if_neg (show ¬ nI i < (160 : Int32) from mi_ltF (b := 160) (by omega) (by omega)), if_neg (show ¬ mk_hd [] = k from fun e => by have : k = 0 := e.symm; omega)]
      exact mk_rs_ok rfl ⟨rfl, hs, hR, hkp⟩
    rw [if_pos (show nI i < (160 : Int32) from mi_ltT (b := 160) (by omega) (by omega)), mk_accept hM hs k (by omega), mi_b]
    by_cases hh : mk_hd L = k
    · have hlen := mk_len (L := L) (by omega)
      obtain ⟨hA1, hA2⟩ := mk_ST_adv hs (by omega)
      rw [if_pos hh, if_pos hh, if_pos hh, if_neg (by decide)]
      refine mk_rs_b (hU (b + mt_sz X.1) L.tail (mk_adv o t) (by omega) hA1) (fun Y v T e hT => ?_)
      obtain ⟨w1, w2, w3, w4⟩ := hT
      simp only at w1 w2 w3
      obtain ⟨c1, c2, c3, c4, _⟩ := hu _ _ e
      simp only [Bool.false_eq_true, if_false, Nat.add_zero] at c3
      have hpY := mt_C_pos c1
      have hkT : mk_kp o (b + mt_sz X.1) t T := mk_kp_tr hA2 w4 (Nat.le_refl _)
      obtain ⟨v', T', e', hW⟩ := mk_joint (N := N) (R := R) (t := t0) (k := j) (a := 0) (l := X.1) (r := Y.1.1) (by omega) w2 (mk_kp_tr hkp hkT (by omega)) (mt_RC_kp hkT _ _ (Nat.le_refl _) hR) w3 (by omega)
      have hcs : nI (mt_cs j 0) = (0 : Int32) := by rcases hk with ⟨_, rfl⟩ | ⟨_, rfl⟩ <;> rfl
      rw [hcs] at e'
      rw [w1, e', mi_b]
      obtain ⟨z1, z2, z3, z4⟩ := hW
      rw [z1, show Int32.ofInt 1 = nI 1 from rfl, mi_add]
      exact ih F (i + 1) (mt_nd j 0 0 0 X.1 Y.1.1, mt_nd j 0 0 0 X.2 Y.1.2) Y.2 T' (by simp only; rw [mt_C_nd]; exact Or.inl ⟨by omega, hX, c1⟩) (by omega) (by omega) (by omega) (by simp only; rw [mt_sz_nd]; omega) z2 z3 z4
    · rw [if_neg hh, if_neg hh, if_neg hh, if_pos rfl]
      exact mk_rs_ok rfl ⟨rfl, hs, hR, hkp⟩
theorem mk_partC {M : mk_L} {f : Nat} (hM : mk_wT M) (hN : 200 ≤ N) (hR : 54 ≤ R) (ih : mk_SF N R o M f) {d b : Nat} {L : mk_L} {t : mw_T} (hd : d ≤ 8) (hf : 8 ≤ d + f) (hb : b + L.length ≤ 160) (hs : mk_ST o t M L d b) : mk_rs (mf_Parser_part N R (mf_Parser_filterR N R o f) o t) (mk_part R (mk_fil R f) d L) (mk_W2 o t M d b) := by
  have hFo : ∀ d L X, mk_fil R f d L = some X → mk_ok2 false L X := fun d L X h => (mk_fil_ok _ _ _ _ h).1
  have hun : ∀ (b' : Nat) (L : mk_L) (t : mw_T), b' + L.length ≤ 160 → mk_ST o t M L d b' → mk_rs (mf_Parser_unit N R (mf_Parser_filterR N R o f) o t) (mk_un R (mk_fil R f) d false L) (mk_W2 o t M d b') := by
    intro b' L t hb hs
    rw [mf_Parser_unit]
    exact mk_unC hM hN hR ih hd hf L false N 0 t (by omega) (by omega) hb (fun h => by cases h) hs (mk_kp_rf _ _ _)
  rw [mf_Parser_part, mk_part]
  refine mk_rs_b (hun b L t hb hs) (fun X v T e hT => ?_)
  obtain ⟨w1, w2, w3, w4⟩ := hT
  obtain ⟨c1, c2, c3, c4, _⟩ := mk_un_ok hFo L false X e
  simp only [Bool.false_eq_true, if_false, Nat.add_zero] at c3
  rw [w1]
  exact mk_jnC (N := N) (R := R) hM (Or.inl ⟨rfl, rfl⟩) (fun L X h => mk_un_ok hFo L false X h) hun (Lp := mf_Parser_part_l7 N R (mf_Parser_filterR N R o f) o) (fun n x1 x2 t => rfl) (X.2.length + 1) N 0 X.1 X.2 T c1 (by omega) (by omega) (by omega) (by omega) w2 w3 w4
theorem mk_filC {M : mk_L} (hM : mk_wT M) (hN : 200 ≤ N) (hR : 54 ≤ R) : ∀ f, mk_SF N R o M f := by
  intro f
  induction f with
  | zero => intro d b L t h1 h2; omega
  | succ f ih =>
    intro d b L t hd hf hb hs
    have hFo : ∀ d L X, mk_fil R f d L = some X → mk_ok2 false L X := fun d L X h => (mk_fil_ok _ _ _ _ h).1
    rw [me_Parser_filterR, mf_Parser_filterB, mk_fil_s]
    refine mk_rs_b (mk_partC hM hN hR ih hd (by omega) hb hs) (fun X v T e hT => ?_)
    obtain ⟨w1, w2, w3, w4⟩ := hT
    obtain ⟨⟨c1, c2, c3, c4, _⟩, _⟩ := mk_part_ok hFo e
    simp only [Bool.false_eq_true, if_false, Nat.add_zero] at c3
    rw [w1]
    exact mk_jnC (N := N) (R := R) hM (Or.inr ⟨rfl, rfl⟩) (fun L X h => (mk_part_ok hFo h).1) (fun b' L t hb hs => mk_partC hM hN hR ih hd (by omega) hb hs) (Lp := mf_Parser_filter_l7 N R (mf_Parser_filterR N R o f) o) (fun n x1 x2 t => rfl) (X.2.length + 1) N 0 X.1 X.2 T c1 (by omega) (by omega) (by omega) (by omega) w2 w3 w4
/-- the class's parse, once the tokens are there -/
theorem mk_parseC {M : mk_L} (hM : mk_wT M) (hN : 200 ≤ N) (hR : 54 ≤ R) {t : mw_T} (ht : mk_TC o t M) :
    mk_rs (mw_b (mf_Tree_empty N R o t) (fun _ t2 => (mw_b (mf_Parser_filter N R o (mw_wi (mw_wi t2 (21 + o) 2 (0 : Int32)) (21 + o) 3 (0 : Int32))) (fun v3 t3 => (mw_b (mf_Parser_expect N R o (0 : Int32) t3) (fun _ t4 => (some (.inl (), t4)))))))) (mk_all R M) (fun (y : mt_T × mt_T) (_ : Unit) T => mt_RC o T 0 y.1 ∧ T.1 (8 + o) 7 = nI (mt_sz y.1)) := by
  obtain ⟨h1, h2, h3⟩ := ht
  have hs : mk_ST o (mw_wi (mw_wi (mw_wi t (8 + o) 7 (0 : Int32)) (21 + o) 2 (0 : Int32)) (21 + o) 3 (0 : Int32)) M M 0 0 := by
    refine ⟨⟨h1, ?_, fun k z hz => ?_⟩, ⟨[], rfl, ?_⟩, ?_, ?_⟩
    · rw [mi_wi, if_neg (by omega), mi_wi, if_neg (by omega), mi_wi, if_neg (by omega)]; exact h2
    · rw [mi_wi, if_neg (by omega), mi_wi, if_neg (by omega), mi_wi, if_neg (by omega)]; exact h3 k z hz
    · rw [mi_wi, if_pos rfl, if_neg (by omega), mi_wi, if_pos rfl, if_pos rfl]; rfl
    · rw [mi_wi, if_pos rfl, if_pos rfl]; rfl
    · rw [mi_wi, if_neg (by omega), mi_wi, if_neg (by omega), mi_wi, if_pos rfl, if_pos rfl]; rfl
  rw [mf_Tree_empty, mi_b, mf_Parser_filter, mk_all]
  refine mk_rs_b (mk_filC hM hN hR R 0 0 M _ (by omega) (by omega) (by omega) hs) (fun X v T e hT => ?_)
  obtain ⟨w1, w2, w3, w4⟩ := hT
  simp only [Nat.zero_add] at w2 w3
  obtain ⟨_, ⟨p, h4, h5⟩, _, h8⟩ := id w2
  obtain ⟨hlt, _⟩ := mk_hd_lt hM h4
  rw [mf_Parser_expect, mk_kind w2, mi_b]
  by_cases hX : X.2 = []
  · rw [if_pos hX, if_pos (by rw [hX]; rfl), mi_b]
    refine mk_rs_ok rfl ⟨?_, ?_⟩
    · refine mt_RC_eq (t := T) (T := mw_wi T (21 + o) 2 ((T.1 (21 + o) 2) + (1 : Int32))) (fun q g1 g2 => ⟨fun i => ?_, fun i => rfl⟩) _ _ w3
      rw [mi_wi, if_neg (by omega)]
    · rw [mi_wi, if_neg (by omega)]; exact h8
  · have h0 : mk_hd X.2 ≠ 0 := by
      cases hh : X.2 with
      | nil => exact absurd hh hX
      | cons z L =>
        have := hM z (by rw [h4, hh]; simp)
        exact this.1
    rw [if_neg hX, if_neg (show ¬ nI (mk_hd X.2) = (0 : Int32) from mi_neT (b := 0) (by omega) (by omega) h0), mi_bx]
    exact mk_rs_no rfl
end
