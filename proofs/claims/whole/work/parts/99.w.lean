/-! THE LAW's turns -/
def mi_Fil (o : Nat) (t : mw_T) : Prop := ∃ P, mi_Prg P o t ∧ (P ≠ [] → mi_Tre o t)
def mi_Inv (sn : Nat) (xs : Nat → Int32) (L o : Nat) (t : mw_T) : Prop := mi_Scr xs L t ∧ mi_Snp sn t ∧ mi_Fil o t ∧ mi_Txt t ∧ mi_Pkt t ∧ mi_Mac t
abbrev mi_sCor : List (Nat × Nat) := mi_sScr ++ mi_sSnp ++ mi_sFM
theorem mi_Inv_k {sn : Nat} {xs : Nat → Int32} {L o : Nat} {t T : mw_T} (h : mi_Inv sn xs L o t) (k : mi_kC o t T) (g : mi_ag mi_sCor t T) (h1 : mi_Txt T) (h2 : mi_Pkt T) (h3 : mi_Mac T) : mi_Inv sn xs L o T := by
  obtain ⟨a1, a2, ⟨P, a3, a4⟩, _⟩ := h
  have g2 : mi_ag mi_sFM t T := mi_ag_sub (by decide) g
  exact ⟨mi_Scr_ag (mi_ag_sub (by decide) g) a1, mi_Snp_ag (mi_ag_sub (by decide) g) a2, ⟨P, mi_Prg_k k g2 a3, fun e => mi_Tre_k k g2 (a4 e)⟩, h1, h2, h3⟩
theorem mi_Txt_ag {t T : mw_T} (h : mi_ag mi_sTxt t T) : mi_Txt t → mi_Txt T := fun ⟨n, hn⟩ => ⟨n, mi_TxtN_ag h hn⟩
theorem mi_Pkt_ag {t T : mw_T} (h : mi_ag mi_sPkt t T) : mi_Pkt t → mi_Pkt T := fun ⟨n, hn⟩ => ⟨n, mi_PktN_ag h hn⟩
section
variable {N R sn L o : Nat} {xs : Nat → Int32} {t : mw_T}
theorem mu_type (ho : o = 0 ∨ o = 21) (hN : 1400 ≤ N) (h : mi_Inv sn xs L o t) (x : Int64) (y : Int32) : ∃ v t1 b t2, mf_Law_type N R o x y t = some (.inl v, t1) ∧ mi_Scr xs L t1 ∧ mf_Model_type N R x y t1 = some (.inl b, t2) ∧ mf_Model_thrown N R t2 = some (.inl v, t2) ∧ (v = 0 → t2.2.1 85 0 = b.toInt64) ∧ mi_Inv sn xs L o t2 ∧ t2.2.2 ≤ t.2.2 + 1 := by
  obtain ⟨v, t1, b, t2, e1, e2, e3, e4, e5, e6⟩ := ml_type N R o (by omega) x y h.2.2.2.1
  have f1 := (mi_frt (mg_Sieve_type N R o x y t) (h := fun q t1 => (if q = 0 then (some (.inl (1 : Int32), t1)) else (if q = 1 then (some (.inl (2 : Int32), t1)) else none))) (fun q T z T' e => by
    by_cases g : q = 0
    · rw [if_pos g] at e; cases e; rfl
    · rw [if_neg g] at e
      by_cases g1 : q = 1
      · rw [if_pos g1] at e; cases e; rfl
      · rw [if_neg g1] at e; cases e) e1).1
  have f2 := (mg_Model_type N R x y t1 _ _ e2).1
  have ag : ∀ {S : List (Nat × Nat)}, mi_dj S [] [(85, 1000), (1, 1), (2, 1000)] = true → mi_dj S [] [(49, 0), (49, 1), (50, 1000)] = true → mi_ag S t t2 := fun d1 d2 => mi_ag_tr (mi_ag_of ho d1 f1) (mi_ag_of (o := 0) (Or.inl rfl) d2 f2)
  exact ⟨v, t1, b, t2, e1, mi_Scr_ag (mi_ag_of ho (by decide) f1) h.1, e2, e3, e4, mi_Inv_k h (mi_kC_tr (mi_kC_same ho (by decide) f1) (mi_kC_mod ho f2 (by decide))) (ag (by decide) (by decide)) e5 (mi_Pkt_ag (ag (by decide) (by decide)) h.2.2.2.2.1) (mi_Mac_ag (ag (by decide) (by decide)) h.2.2.2.2.2), e6⟩
theorem mu_holds (ho : o = 0 ∨ o = 21) (hN : 1400 ≤ N) (hR : 160 ≤ R) (h : mi_Inv sn xs L o t) : ∃ v t1 b t2, mf_Law_holds N R o t = some (.inl v, t1) ∧ mf_Model_holds N R t1 = some (.inl b, t2) ∧ mf_Model_thrown N R t2 = some (.inl v, t2) ∧ (v = 0 → t2.2.1 85 0 = b.toInt64) ∧ mi_Inv sn xs L o t2 ∧ t2.2.2 ≤ t.2.2 + 1 := by
  obtain ⟨P, p1, p2⟩ := h.2.2.1
  obtain ⟨v, t1, b, t2, e1, e2, e3, e4⟩ := ml_holds N R o ho (by omega) hR h.2.2.2.2.1 p1 p2
  obtain ⟨f1, f3⟩ := (mi_frt (mg_Sieve_holds N R o t) (h := fun q t1 => (if q = 1 then (some (.inl (1 : Int32), t1)) else none)) (fun q T z T' e => by
    by_cases g1 : q = 1
    · rw [if_pos g1] at e; cases e; rfl
    · rw [if_neg g1] at e; cases e) e1)
  obtain ⟨f2, f4⟩ := mg_Model_holds N R t1 _ _ e2
  have ag : ∀ {S : List (Nat × Nat)}, mi_dj S [(27, 1000)] [(85, 1000)] = true → mi_dj S [] [(49, 0), (49, 53), (71, 1000)] = true → mi_ag S t t2 := fun d1 d2 => mi_ag_tr (mi_ag_of ho d1 f1) (mi_ag_of (o := 0) (Or.inl rfl) d2 f2)
  refine ⟨v, t1, b, t2, e1, e2, e3, e4, mi_Inv_k h (mi_kC_tr (mi_kC_same ho (by decide) f1) (mi_kC_mod ho f2 (by decide))) (ag (by decide) (by decide)) (mi_Txt_ag (ag (by decide) (by decide)) h.2.2.2.1) (mi_Pkt_ag (ag (by decide) (by decide)) h.2.2.2.2.1) (mi_Mac_ag (ag (by decide) (by decide)) h.2.2.2.2.2), ?_⟩
  rw [f4]; exact f3
theorem mu_run (ho : o = 0 ∨ o = 21) (hN : 1400 ≤ N) (h : mi_Inv sn xs L o t) : ∃ v t1 b t2, mf_Law_run N R o t = some (.inl v, t1) ∧ mf_Model_run N R t1 = some (.inl b, t2) ∧ mf_Model_thrown N R t2 = some (.inl v, t2) ∧ (v = 0 → t2.2.1 85 0 = b.toInt64) ∧ mi_Inv sn xs L o t2 ∧ t2.2.2 ≤ t.2.2 + 1 := by
  obtain ⟨P, p1, p2⟩ := h.2.2.1
  obtain ⟨v, t1, b, t2, e1, e2, e3, e4, e5, e6⟩ := ml_run N R o ho (by omega) h.2.2.2.2.1 p1
  obtain ⟨f1, f3⟩ := (mi_frt (mg_Sieve_run N R o t) (h := fun q t1 => (if q = 1 then (some (.inl (1 : Int32), t1)) else none)) (fun q T z T' e => by
    by_cases g1 : q = 1
    · rw [if_pos g1] at e; cases e; rfl
    · rw [if_neg g1] at e; cases e) e1)
  obtain ⟨f2, f4⟩ := mg_Model_run N R t1 _ _ e2
  have ag : ∀ {S : List (Nat × Nat)}, mi_dj S [] [(85, 1000), (5, 2), (5, 3), (5, 4), (6, 1000)] = true → mi_dj S [] [(49, 0), (49, 51), (49, 53), (49, 54), (49, 55), (84, 1000)] = true → mi_ag S t t2 := fun d1 d2 => mi_ag_tr (mi_ag_of ho d1 f1) (mi_ag_of (o := 0) (Or.inl rfl) d2 f2)
  have hm : mi_Mac t2 := by
    by_cases g : P = []
    · exact e6 g h.2.2.2.2.2
    · exact e5 g
  refine ⟨v, t1, b, t2, e1, e2, e3, e4, mi_Inv_k h (mi_kC_tr (mi_kC_same ho (by decide) f1) (mi_kC_mod ho f2 (by decide))) (ag (by decide) (by decide)) (mi_Txt_ag (ag (by decide) (by decide)) h.2.2.2.1) (mi_Pkt_ag (ag (by decide) (by decide)) h.2.2.2.2.1) hm, ?_⟩
  rw [f4]; exact f3
theorem mu_clear (ho : o = 0 ∨ o = 21) (h : mi_Inv sn xs L o t) : ∃ v t1 t2, mf_Sieve_clear N R o t = some (.inl v, t1) ∧ mf_Model_clear N R t1 = some (.inl v, t2) ∧ mi_Inv sn xs L o t2 ∧ t2.2.2 ≤ t.2.2 + 1 := by
  obtain ⟨v, t1, t2, e1, e2, e3⟩ := ml_clear N R o h.2.2.2.1
  obtain ⟨f1, f3⟩ := mg_Sieve_clear N R o t _ _ e1
  obtain ⟨f2, f4⟩ := mg_Model_clear N R t1 _ _ e2
  have ag : ∀ {S : List (Nat × Nat)}, mi_dj S [] [(1, 1)] = true → mi_dj S [] [(49, 0), (49, 1)] = true → mi_ag S t t2 := fun d1 d2 => mi_ag_tr (mi_ag_of ho d1 f1) (mi_ag_of (o := 0) (Or.inl rfl) d2 f2)
  refine ⟨v, t1, t2, e1, e2, mi_Inv_k h (mi_kC_tr (mi_kC_same ho (by decide) f1) (mi_kC_mod ho f2 (by decide))) (ag (by decide) (by decide)) e3 (mi_Pkt_ag (ag (by decide) (by decide)) h.2.2.2.2.1) (mi_Mac_ag (ag (by decide) (by decide)) h.2.2.2.2.2), ?_⟩
  rw [f4, f3]; exact Nat.le_succ _
theorem mu_cut (ho : o = 0 ∨ o = 21) (h : mi_Inv sn xs L o t) (x : Int32) : ∃ v t1 t2, mf_Sieve_cut N R o x t = some (.inl v, t1) ∧ mi_Scr xs L t1 ∧ mf_Model_cut N R x t1 = some (.inl v, t2) ∧ mi_Inv sn xs L o t2 ∧ t2.2.2 ≤ t.2.2 + 1 := by
  obtain ⟨v, t1, t2, e1, e2, e3⟩ := ml_cut N R o x h.2.2.2.2.1
  obtain ⟨f1, f3⟩ := mg_Sieve_cut N R o x t _ _ e1
  obtain ⟨f2, f4⟩ := mg_Model_cut N R x t1 _ _ e2
  have ag : ∀ {S : List (Nat × Nat)}, mi_dj S [] [(3, 1)] = true → mi_dj S [] [(49, 0), (49, 50)] = true → mi_ag S t t2 := fun d1 d2 => mi_ag_tr (mi_ag_of ho d1 f1) (mi_ag_of (o := 0) (Or.inl rfl) d2 f2)
  refine ⟨v, t1, t2, e1, mi_Scr_ag (mi_ag_of ho (by decide) f1) h.1, e2, mi_Inv_k h (mi_kC_tr (mi_kC_same ho (by decide) f1) (mi_kC_mod ho f2 (by decide))) (ag (by decide) (by decide)) (mi_Txt_ag (ag (by decide) (by decide)) h.2.2.2.1) e3 (mi_Mac_ag (ag (by decide) (by decide)) h.2.2.2.2.2), ?_⟩
  rw [f4, f3]; exact Nat.le_succ _
theorem mu_set (ho : o = 0 ∨ o = 21) (h : mi_Inv sn xs L o t) (x y : Int32) : ∃ v t1 t2, mf_Sieve_set N R o x y t = some (.inl v, t1) ∧ mi_Scr xs L t1 ∧ mf_Model_set N R x y t1 = some (.inl v, t2) ∧ mi_Inv sn xs L o t2 ∧ t2.2.2 ≤ t.2.2 + 1 := by
  obtain ⟨v, t1, t2, e1, e2, e3⟩ := ml_set N R o x y h.2.2.2.2.1
  obtain ⟨f1, f3⟩ := mg_Sieve_set N R o x y t _ _ e1
  obtain ⟨f2, f4⟩ := mg_Model_set N R x y t1 _ _ e2
  have ag : ∀ {S : List (Nat × Nat)}, mi_dj S [] [(4, 1000)] = true → mi_dj S [] [(49, 0), (83, 1000)] = true → mi_ag S t t2 := fun d1 d2 => mi_ag_tr (mi_ag_of ho d1 f1) (mi_ag_of (o := 0) (Or.inl rfl) d2 f2)
  refine ⟨v, t1, t2, e1, mi_Scr_ag (mi_ag_of ho (by decide) f1) h.1, e2, mi_Inv_k h (mi_kC_tr (mi_kC_same ho (by decide) f1) (mi_kC_mod ho f2 (by decide))) (ag (by decide) (by decide)) (mi_Txt_ag (ag (by decide) (by decide)) h.2.2.2.1) e3 (mi_Mac_ag (ag (by decide) (by decide)) h.2.2.2.2.2), ?_⟩
  rw [f4, f3]; exact Nat.le_succ _
theorem mu_put (ho : o = 0 ∨ o = 21) (hN : 1400 ≤ N) (h : mi_Inv sn xs L o t) (x : Int64) (y : Int32) : ∃ v t1 t2, mf_Sieve_put N R o x y t = some (.inl v, t1) ∧ mi_Scr xs L t1 ∧ mf_Model_put N R x y t1 = some (.inl v, t2) ∧ mi_Inv sn xs L o t2 ∧ t2.2.2 ≤ t.2.2 + 1 := by
  obtain ⟨v, t1, t2, e1, e2, e3⟩ := ml_put N R o (by omega) x y h.2.2.2.2.1
  obtain ⟨f1, f3⟩ := mg_Sieve_put N R o x y t _ _ e1
  obtain ⟨f2, f4⟩ := mg_Model_put N R x y t1 _ _ e2
  have ag : ∀ {S : List (Nat × Nat)}, mi_dj S [] [(3, 1), (4, 1000)] = true → mi_dj S [] [(49, 0), (49, 50), (83, 1000)] = true → mi_ag S t t2 := fun d1 d2 => mi_ag_tr (mi_ag_of ho d1 f1) (mi_ag_of (o := 0) (Or.inl rfl) d2 f2)
  refine ⟨v, t1, t2, e1, mi_Scr_ag (mi_ag_of ho (by decide) f1) h.1, e2, mi_Inv_k h (mi_kC_tr (mi_kC_same ho (by decide) f1) (mi_kC_mod ho f2 (by decide))) (ag (by decide) (by decide)) (mi_Txt_ag (ag (by decide) (by decide)) h.2.2.2.1) e3 (mi_Mac_ag (ag (by decide) (by decide)) h.2.2.2.2.2), ?_⟩
  rw [f4, f3]; exact Nat.le_succ _
theorem mu_instr (ho : o = 0 ∨ o = 21) (h : mi_Inv sn xs L o t) (x y : Int32) : ∃ v t1 t2, mf_Sieve_instruction N R o x y t = some (.inl v, t1) ∧ mi_Scr xs L t1 ∧ mf_Model_instruction N R x y t1 = some (.inl v, t2) ∧ mi_Inv sn xs L o t2 ∧ t2.2.2 ≤ t.2.2 + 1 := by
  obtain ⟨P, p1, p2⟩ := h.2.2.1
  obtain ⟨v, t1, t2, e1, e2⟩ := ml_instr N R o x y p1
  obtain ⟨f1, f3⟩ := mg_Sieve_instruction N R o x y t _ _ e1
  obtain ⟨f2, f4⟩ := mg_Model_instruction N R x y t1 _ _ e2
  have ag : ∀ {S : List (Nat × Nat)}, mi_dj S [] [] = true → mi_dj S [] [(49, 0)] = true → mi_ag S t t2 := fun d1 d2 => mi_ag_tr (mi_ag_of ho d1 f1) (mi_ag_of (o := 0) (Or.inl rfl) d2 f2)
  refine ⟨v, t1, t2, e1, mi_Scr_ag (mi_ag_of ho (by decide) f1) h.1, e2, mi_Inv_k h (mi_kC_tr (mi_kC_same ho (by decide) f1) (mi_kC_mod ho f2 (by decide))) (ag (by decide) (by decide)) (mi_Txt_ag (ag (by decide) (by decide)) h.2.2.2.1) (mi_Pkt_ag (ag (by decide) (by decide)) h.2.2.2.2.1) (mi_Mac_ag (ag (by decide) (by decide)) h.2.2.2.2.2), ?_⟩
  rw [f4, f3]; exact Nat.le_succ _
theorem mu_state (ho : o = 0 ∨ o = 21) (h : mi_Inv sn xs L o t) (x : Int32) : ∃ v t1 t2, mf_Sieve_state N R o x t = some (.inl v, t1) ∧ mi_Scr xs L t1 ∧ mf_Model_state N R x t1 = some (.inl v, t2) ∧ mi_Inv sn xs L o t2 ∧ t2.2.2 ≤ t.2.2 + 1 := by
  obtain ⟨v, t1, t2, e1, e2, e3⟩ := ml_state N R o x h.2.2.2.2.2
  obtain ⟨f1, f3⟩ := mg_Sieve_state N R o x t _ _ e1
  obtain ⟨f2, f4⟩ := mg_Model_state N R x t1 _ _ e2
  have ag : ∀ {S : List (Nat × Nat)}, mi_dj S [] [] = true → mi_dj S [] [(49, 0)] = true → mi_ag S t t2 := fun d1 d2 => mi_ag_tr (mi_ag_of ho d1 f1) (mi_ag_of (o := 0) (Or.inl rfl) d2 f2)
  refine ⟨v, t1, t2, e1, mi_Scr_ag (mi_ag_of ho (by decide) f1) h.1, e2, mi_Inv_k h (mi_kC_tr (mi_kC_same ho (by decide) f1) (mi_kC_mod ho f2 (by decide))) (ag (by decide) (by decide)) (mi_Txt_ag (ag (by decide) (by decide)) h.2.2.2.1) (mi_Pkt_ag (ag (by decide) (by decide)) h.2.2.2.2.1) e3, ?_⟩
  rw [f4, f3]; exact Nat.le_succ _
theorem mu_compile (ho : o = 0 ∨ o = 21) (hN : 1400 ≤ N) (hR : 160 ≤ R) (h : mi_Inv sn xs L o t) : ∃ v o' t1 b t2, mf_Law_compile N R o t = some (.inl v, o', t1) ∧ (o' = 0 ∨ o' = 21) ∧ mf_Model_compile N R t1 = some (.inl b, t2) ∧ mf_Model_thrown N R t2 = some (.inl v, t2) ∧ (v = 0 → t2.2.1 85 0 = b.toInt64) ∧ mi_Inv sn xs L o' t2 ∧ t2.2.2 ≤ t.2.2 + 1 := by
  obtain ⟨P, p1, p2⟩ := h.2.2.1
  obtain ⟨v, o', t1, b, t2, e1, e2, e3, e4, e5, e6, e7, e8, e9⟩ := ml_compile (N := N) (R := R) o ho hN hR h.2.2.2.1 h.2.1 p1 p2
  exact ⟨v, o', t1, b, t2, e1, e2, e3, e4, e5, ⟨mi_Scr_ag (mi_ag_sub (by decide) e9) h.1, mi_Snp_ag (mi_ag_sub (by decide) e9) h.2.1, e7, e6, mi_Pkt_ag (mi_ag_sub (by decide) e9) h.2.2.2.2.1, mi_Mac_ag (mi_ag_sub (by decide) e9) h.2.2.2.2.2⟩, e8⟩
/-- both say the same -/
theorem mu_same {X Y : mw_Y Int32} {v : Int32} {b : Int64} {t2 : mw_T} (h : v = 0 → t2.2.1 85 0 = b) : (if v = v then (if v = 0 then (if mj_in (0 : Int32) 1 = true then (if (t2.2.1 85 (0 : Int32).toNatClampNeg) = b then X else Y) else none) else X) else Y) = X := by
  rw [if_pos rfl]
  by_cases g : v = 0
  · rw [if_pos g, if_pos (by decide), if_pos (show t2.2.1 85 (0 : Int32).toNatClampNeg = b from h g)]
  · rw [if_neg g]
theorem mi_Lx {L x : Nat} (hL : L ≤ 2049) (hx : x ≤ 4000) : (nI L - 4 < nI x) ↔ L < x + 4 := by
  by_cases h : 4 ≤ L
  · have e : nI L - (4 : Int32) = nI (L - 4) := mi_sub (b := 4) h
    rw [e, mi_lt (by omega) (by omega)]
    omega
  · have hl : L = 0 ∨ L = 1 ∨ L = 2 ∨ L = 3 := by omega
    rw [Int32.lt_iff_toInt_lt, mi_nI x (by omega)]
    rcases hl with rfl | rfl | rfl | rfl
    · rw [show (nI 0 - 4).toInt = -4 by decide]; omega
    · rw [show (nI 1 - 4).toInt = -3 by decide]; omega
    · rw [show (nI 2 - 4).toInt = -2 by decide]; omega
    · rw [show (nI 3 - 4).toInt = -1 by decide]; omega
theorem ml_loop (hN : 1400 ≤ N) (hR : 160 ≤ R) (hL : L ≤ 2049) : ∀ (k x o : Nat) (t : mw_T), o = 0 ∨ o = 21 → mi_Inv sn xs L o t → x ≤ L + 4 → L < x + 4 * k → ∃ o' t', mf_Law_law_l33 N R (k + 1) o (nI x) t = some (.inl 1, o', t') ∧ t'.2.2 ≤ t.2.2 + k := by
  intro k
  induction k with
  | zero =>
    intro x o t ho h hx hk
    refine ⟨o, t, ?_, Nat.le_refl _⟩
    show mf_Law_law_l33B N R (mf_Law_law_l33 N R 0) o (nI x) t = _
    rw [mf_Law_law_l33B, h.1.2, if_pos ((mi_Lx hL (by omega)).mpr (by omega))]
  | succ k ih =>
    intro x o t ho h hx hk
    show ∃ o' t', mf_Law_law_l33B N R (mf_Law_law_l33 N R (k + 1)) o (nI x) t = some (.inl 1, o', t') ∧ t'.2.2 ≤ t.2.2 + (k + 1)
    obtain ⟨s1, s2⟩ := h.1
    rw [mf_Law_law_l33B, s2]
    by_cases hend : L < x + 4
    · rw [if_pos ((mi_Lx hL (by omega)).mpr hend)]
      exact ⟨o, t, rfl, by omega⟩
    rw [if_neg (fun g => hend ((mi_Lx hL (by omega)).mp g)), mi_tn (by omega), mi_tn (by omega), s1]
    have e1 : nI x + (1 : Int32) = nI (x + 1) := mi_add x 1
    have e2 : nI x + (2 : Int32) = nI (x + 2) := mi_add x 2
    have e3 : nI x + (3 : Int32) = nI (x + 3) := mi_add x 3
    have e4 : nI x + Int32.ofInt 4 = nI (x + 4) := mi_add x 4
    have i0 : mj_in (nI x) L = true := mi_inT (by omega) (by omega)
    have i1 : mj_in (nI (x + 1)) L = true := mi_inT (by omega) (by omega)
    have i2 : mj_in (nI (x + 2)) L = true := mi_inT (by omega) (by omega)
    have i3 : mj_in (nI (x + 3)) L = true := mi_inT (by omega) (by omega)
    have n1 : (nI (x + 1)).toNatClampNeg = x + 1 := mi_tn (by omega)
    have n2 : (nI (x + 2)).toNatClampNeg = x + 2 := mi_tn (by omega)
    have n3 : (nI (x + 3)).toNatClampNeg = x + 3 := mi_tn (by omega)
    have nL' : (nI L).toNatClampNeg = L := mi_tn (by omega)
    rw [if_pos i0, e1, e2, e3]
    -- what comes behind a turn
    have nxt : ∀ (o2 : Nat) (t2 : mw_T), o2 = 0 ∨ o2 = 21 → mi_Inv sn xs L o2 t2 → t2.2.2 ≤ t.2.2 + 1 → ∃ o' t', mf_Law_law_b542 N R (mf_Law_law_l33 N R (k + 1)) o2 (nI x) t2 = some (.inl 1, o', t') ∧ t'.2.2 ≤ t.2.2 + (k + 1) := by
      intro o2 t2 ho2 h2 hex
      rw [mf_Law_law_b542, e4]
      obtain ⟨o', t', a1, a2⟩ := ih (x + 4) o2 t2 ho2 h2 (by omega) (by omega)
      exact ⟨o', t', a1, by omega⟩
    by_cases g0 : xs x &&& 15 = 0
    · rw [if_pos g0, if_pos i1, if_pos i2, if_pos i3, n1, n2, n3, s1 (x + 1), s1 (x + 2), s1 (x + 3)]
      obtain ⟨v, t1, b, t2, a1, a2, a3, a4, a5, a6, a7⟩ := mu_type (N := N) (R := R) ho hN h (((xs (x + 1)).toInt64 <<< ((32 : Int32).toInt64 &&& 63)) ||| ((xs (x + 2)).toInt64 &&& (4294967295 : Int64))) (xs (x + 3))
      rw [a1, mi_b4s, a2.2, nL', if_pos i1, if_pos i2, if_pos i3, a2.1 (x + 1), a2.1 (x + 2), a2.1 (x + 3), a3, mi_b4, a4, mi_b4, mu_same a5]
      exact nxt o t2 ho a6 a7
    rw [if_neg g0]
    by_cases g1 : xs x &&& 15 = 1
    · rw [if_pos g1]
      obtain ⟨v, t1, t2, a1, a3, a6, a7⟩ := mu_clear (N := N) (R := R) ho h
      rw [a1, mi_b4, a3, mi_b4, if_pos rfl]
      exact nxt o t2 ho a6 a7
    rw [if_neg g1]
    by_cases g2 : xs x &&& 15 = 2
    · rw [if_pos g2]
      obtain ⟨v, o2, t1, b, t2, a1, a2, a3, a4, a5, a6, a7⟩ := mu_compile (N := N) (R := R) ho hN hR h
      rw [a1, mi_b44, if_pos a2, a3, mi_b4, a4, mi_b4, mu_same a5]
      exact nxt o2 t2 a2 a6 a7
    rw [if_neg g2]
    by_cases g3 : xs x &&& 15 = 3
    · rw [if_pos g3, if_pos i1, if_pos i2, n1, n2, s1 (x + 1), s1 (x + 2)]
      obtain ⟨v, t1, t2, a1, a2, a3, a6, a7⟩ := mu_instr (N := N) (R := R) ho h (xs (x + 1)) (xs (x + 2))
      rw [a1, mi_b4, a2.2, nL', if_pos i1, if_pos i2, a2.1 (x + 1), a2.1 (x + 2), a3, mi_b4, if_pos rfl]
      exact nxt o t2 ho a6 a7
    rw [if_neg g3]
    by_cases g4 : xs x &&& 15 = 4
    · rw [if_pos g4, if_pos i1, if_pos i2, if_pos i3, n1, n2, n3, s1 (x + 1), s1 (x + 2), s1 (x + 3)]
      obtain ⟨v, t1, t2, a1, a2, a3, a6, a7⟩ := mu_put (N := N) (R := R) ho hN h (((xs (x + 1)).toInt64 <<< ((32 : Int32).toInt64 &&& 63)) ||| ((xs (x + 2)).toInt64 &&& (4294967295 : Int64))) (xs (x + 3))
      rw [a1, mi_b4, a2.2, nL', if_pos i1, if_pos i2, if_pos i3, a2.1 (x + 1), a2.1 (x + 2), a2.1 (x + 3), a3, mi_b4, if_pos rfl]
      exact nxt o t2 ho a6 a7
    rw [if_neg g4]
    by_cases g5 : xs x &&& 15 = 5
    · rw [if_pos g5, if_pos i1, n1, s1 (x + 1)]
      obtain ⟨v, t1, t2, a1, a2, a3, a6, a7⟩ := mu_cut (N := N) (R := R) ho h (xs (x + 1))
      rw [a1, mi_b4, a2.2, nL', if_pos i1, a2.1 (x + 1), a3, mi_b4, if_pos rfl]
      exact nxt o t2 ho a6 a7
    rw [if_neg g5]
    by_cases g6 : xs x &&& 15 = 6
    · rw [if_pos g6, if_pos i1, if_pos i2, n1, n2, s1 (x + 1), s1 (x + 2)]
      obtain ⟨v, t1, t2, a1, a2, a3, a6, a7⟩ := mu_set (N := N) (R := R) ho h (xs (x + 1)) (xs (x + 2))
      rw [a1, mi_b4, a2.2, nL', if_pos i1, if_pos i2, a2.1 (x + 1), a2.1 (x + 2), a3, mi_b4, if_pos rfl]
      exact nxt o t2 ho a6 a7
    rw [if_neg g6]
    by_cases g7 : xs x &&& 15 = 7
    · rw [if_pos g7]
      obtain ⟨v, t1, b, t2, a1, a3, a4, a5, a6, a7⟩ := mu_holds (N := N) (R := R) ho hN hR h
      rw [a1, mi_b4s, a3, mi_b4, a4, mi_b4, mu_same a5]
      exact nxt o t2 ho a6 a7
    rw [if_neg g7]
    by_cases g8 : xs x &&& 15 = 8
    · rw [if_pos g8]
      obtain ⟨v, t1, b, t2, a1, a3, a4, a5, a6, a7⟩ := mu_run (N := N) (R := R) ho hN h
      rw [a1, mi_b4s, a3, mi_b4, a4, mi_b4, mu_same a5]
      exact nxt o t2 ho a6 a7
    rw [if_neg g8]
    by_cases g9 : xs x &&& 15 = 9
    · rw [if_pos g9, if_pos i1, n1, s1 (x + 1)]
      obtain ⟨v, t1, t2, a1, a2, a3, a6, a7⟩ := mu_state (N := N) (R := R) ho h (xs (x + 1))
      rw [a1, mi_b4, a2.2, nL', if_pos i1, a2.1 (x + 1), a3, mi_b4, if_pos rfl]
      exact nxt o t2 ho a6 a7
    rw [if_neg g9]
    exact nxt o t ho h (Nat.le_succ _)
end
