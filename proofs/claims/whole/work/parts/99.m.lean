/-! THE REFERENCE takes a token, whole -/
theorem mn_pk_lt2 : ∀ W : List Nat, (∀ c ∈ W, c ≤ 127) → 2 * mn_pk W + 1 ≤ 256 ^ W.length
  | [], _ => by decide
  | c :: W, h => by
    have h1 := mn_pk_lt2 W (fun d hd => h d (List.mem_cons_of_mem _ hd))
    have h2 := h c (List.mem_cons_self ..)
    rw [mn_pk, List.length_cons, Nat.pow_succ]; omega
theorem mk_wk_sp (W : List Nat) : (mk_wk W = 2 ∧ ∀ j, j < 13 → W ≠ mk_s j) ∨ ∃ j, j < 13 ∧ mk_wk W = j + 3 ∧ W = mk_s j := by
  unfold mk_wk
  by_cases h0 : W = mk_s 0
  · rw [if_pos h0]; exact Or.inr ⟨0, by decide, rfl, h0⟩
  rw [if_neg h0]
  by_cases h1 : W = mk_s 1
  · rw [if_pos h1]; exact Or.inr ⟨1, by decide, rfl, h1⟩
  rw [if_neg h1]
  by_cases h2 : W = mk_s 2
  · rw [if_pos h2]; exact Or.inr ⟨2, by decide, rfl, h2⟩
  rw [if_neg h2]
  by_cases h3 : W = mk_s 3
  · rw [if_pos h3]; exact Or.inr ⟨3, by decide, rfl, h3⟩
  rw [if_neg h3]
  by_cases h4 : W = mk_s 4
  · rw [if_pos h4]; exact Or.inr ⟨4, by decide, rfl, h4⟩
  rw [if_neg h4]
  by_cases h5 : W = mk_s 5
  · rw [if_pos h5]; exact Or.inr ⟨5, by decide, rfl, h5⟩
  rw [if_neg h5]
  by_cases h6 : W = mk_s 6
  · rw [if_pos h6]; exact Or.inr ⟨6, by decide, rfl, h6⟩
  rw [if_neg h6]
  by_cases h7 : W = mk_s 7
  · rw [if_pos h7]; exact Or.inr ⟨7, by decide, rfl, h7⟩
  rw [if_neg h7]
  by_cases h8 : W = mk_s 8
  · rw [if_pos h8]; exact Or.inr ⟨8, by decide, rfl, h8⟩
  rw [if_neg h8]
  by_cases h9 : W = mk_s 9
  · rw [if_pos h9]; exact Or.inr ⟨9, by decide, rfl, h9⟩
  rw [if_neg h9]
  by_cases h10 : W = mk_s 10
  · rw [if_pos h10]; exact Or.inr ⟨10, by decide, rfl, h10⟩
  rw [if_neg h10]
  by_cases h11 : W = mk_s 11
  · rw [if_pos h11]; exact Or.inr ⟨11, by decide, rfl, h11⟩
  rw [if_neg h11]
  by_cases h12 : W = mk_s 12
  · rw [if_pos h12]; exact Or.inr ⟨12, by decide, rfl, h12⟩
  rw [if_neg h12]
  refine Or.inl ⟨rfl, fun j hj e => ?_⟩
  have : j = 0 ∨ j = 1 ∨ j = 2 ∨ j = 3 ∨ j = 4 ∨ j = 5 ∨ j = 6 ∨ j = 7 ∨ j = 8 ∨ j = 9 ∨ j = 10 ∨ j = 11 ∨ j = 12 := by omega
  rcases this with rfl | rfl | rfl | rfl | rfl | rfl | rfl | rfl | rfl | rfl | rfl | rfl | rfl <;> contradiction
/-- what a take leaves -/
def mn_tr (S : List Nat) (t T : mw_T) (p : Nat) : Prop := mn_fr t T ∧ ∃ p', p' ≤ S.length ∧ T.1 49 3 = nI p' ∧ ((T.1 49 7 = 1 ∧ (¬ t.1 49 7 = 0 ∨ mk_hd (mk_lx S p) = 2)) ∨ (T.1 49 7 = 0 ∧ t.1 49 7 = 0 ∧ mk_lx S p' = (mk_lx S p).tail ∧ mn_cd T (mk_hd (mk_lx S p)) (mk_hv (mk_lx S p))))
theorem mn_t2 {c d : Nat} (hc : c ≤ 126) (hd : d ≤ 126) (h : mk_t2 c d = true) : mn_v (c * 256 + d) 0 = c + 256 * d ∧ mn_ad (c * 256 + d) ∧ 15 < c * 256 + d := by
  unfold mk_t2 at h
  simp only [Bool.or_eq_true, Nat.beq_eq] at h
  have : (c = 33 ∧ d = 61) ∨ (c = 60 ∧ d = 61) ∨ (c = 62 ∧ d = 61) ∨ (c = 60 ∧ d = 60) ∨ (c = 62 ∧ d = 62) := by omega
  unfold mn_ad
  rcases this with ⟨rfl, rfl⟩ | ⟨rfl, rfl⟩ | ⟨rfl, rfl⟩ | ⟨rfl, rfl⟩ | ⟨rfl, rfl⟩
  · exact ⟨rfl, by omega, by omega⟩
  · exact ⟨rfl, by omega, by omega⟩
  · exact ⟨rfl, by omega, by omega⟩
  · exact ⟨rfl, by omega, by omega⟩
  · exact ⟨rfl, by omega, by omega⟩
section
variable {N R : Nat}
theorem mn_isTwo (c d : Nat) (hc : c ≤ 126) (hd : d ≤ 126) (t : mw_T) : mf_Model_isTwo N R (nI c) (nI d) t = some (.inl (mj_b2 (mk_t2 c d)), t) := by
  have yes : (d = 61 ∧ (c = 33 ∨ c = 60 ∨ c = 62)) ∨ (c = d ∧ (c = 60 ∨ c = 62)) → mk_t2 c d = true := by
    intro h
    unfold mk_t2
    simp only [Bool.or_eq_true, Nat.beq_eq]
    omega
  have no : ¬ ((d = 61 ∧ (c = 33 ∨ c = 60 ∨ c = 62)) ∨ (c = d ∧ (c = 60 ∨ c = 62))) → mk_t2 c d = false := by
    intro h
    rw [← Bool.not_eq_true]
    unfold mk_t2
    simp only [Bool.or_eq_true, Nat.beq_eq]
    omega
  have eqc : ∀ k : Nat, k < 1000 → (nI c = nI k ↔ c = k) := fun k hk => by rw [mi_eq (by omega) (by omega)]
  have c33 : nI c = (33 : Int32) ↔ c = 33 := eqc 33 (by omega)
  have c60 : nI c = (60 : Int32) ↔ c = 60 := eqc 60 (by omega)
  have c62 : nI c = (62 : Int32) ↔ c = 62 := eqc 62 (by omega)
  have cd : nI c = nI d ↔ c = d := eqc d (by omega)
  have d61 : nI d = (61 : Int32) ↔ d = 61 := by
    have : nI d = nI 61 ↔ d = 61 := by rw [mi_eq (by omega) (by omega)]
    exact this
  have rest : ¬ (d = 61 ∧ (c = 33 ∨ c = 60 ∨ c = 62)) → mf_Model_isTwo_b24 N R (nI c) (nI d) t = some (.inl (mj_b2 (mk_t2 c d)), t) := by
    intro hn
    rw [mf_Model_isTwo_b24]
    by_cases g : c = d
    · rw [if_pos (cd.mpr g)]
      by_cases g1 : c = 60
      · rw [if_pos (c60.mpr g1), yes (Or.inr ⟨g, Or.inl g1⟩)]; rfl
      · rw [if_neg (fun x => g1 (c60.mp x))]
        by_cases g2 : c = 62
        · rw [if_pos (c62.mpr g2), yes (Or.inr ⟨g, Or.inr g2⟩)]; rfl
        · rw [if_neg (fun x => g2 (c62.mp x)), no (by omega)]; rfl
    · rw [if_neg (fun x => g (cd.mp x)), no (by omega)]; rfl
  rw [mf_Model_isTwo]
  by_cases h61 : d = 61
  · rw [if_pos (d61.mpr h61)]
    by_cases g0 : c = 33
    · rw [if_pos (c33.mpr g0), yes (by omega)]; rfl
    rw [if_neg (fun x => g0 (c33.mp x))]
    by_cases g1 : c = 60
    · rw [if_pos (c60.mpr g1), yes (by omega)]; rfl
    rw [if_neg (fun x => g1 (c60.mp x))]
    by_cases g2 : c = 62
    · rw [if_pos (c62.mpr g2), yes (by omega)]; rfl
    rw [if_neg (fun x => g2 (c62.mp x))]
    exact rest (by omega)
  · rw [if_neg (fun x => h61 (d61.mp x))]
    exact rest (by omega)
theorem mn_sgn {S : List Nat} {t : mw_T} (h : mk_TM S t) {p : Nat} (hp : p < S.length) (hL : mk_isL (mk_ch S p) = false) (hD : mk_isD (mk_ch S p) = false) (h3 : t.1 49 3 = nI p) (h4 : t.1 49 4 = 3) (y : Int32) (hy : y = 0 ∨ y = 1) : ∃ T, mf_Model_take_b295 N R (nI (mk_ch S p)) y t = some (.inl (), T) ∧ mn_fr t T ∧ T.1 49 3 = nI (mk_tok S p).2 ∧ T.1 49 4 = 3 ∧ T.1 49 7 = y ∧ T.2.1 49 6 = nL (mn_v (mk_tok S p).1.1 0) ∧ (mk_tok S p).1.2 = 0 ∧ mn_ad (mk_tok S p).1.1 ∧ 15 < (mk_tok S p).1.1 := by
  have hS := h.1.1
  obtain ⟨c1, c2⟩ := mk_ch_lt h.1 p
  obtain ⟨d1, _⟩ := mk_ch_lt h.1 (p + 1)
  have c3 := c2 hp
  have f1 := mn_fr_wi t 7 y (by omega)
  have h3' : (mw_wi t 49 7 y).1 49 3 = nI p := by rw [mi_wi, if_pos rfl, if_neg (by omega)]; exact h3
  rw [mf_Model_take_b295, if_pos hy, if_pos h4, h3, show (1 : Int32) = nI 1 from rfl, mi_add, mk_characterM (mn_TX h f1) (p + 1) (by omega), mi_b, mn_isTwo _ _ c1 d1, mi_bs]
  cases ht : mk_t2 (mk_ch S p) (mk_ch S (p + 1)) with
  | true =>
    obtain ⟨v1, v2, v3⟩ := mn_t2 c1 d1 ht
    have e : mk_tok S p = ((mk_ch S p * 256 + mk_ch S (p + 1), 0), p + 2) := by
      unfold mk_tok
      rw [hL, hD, if_neg (by decide), if_neg (by decide), if_pos ht]
    rw [if_neg (show ¬ mj_b2 true = 0 by decide), h3', mi_add, mk_characterM (mn_TX h f1) (p + 1) (by omega), mi_b, mf_Model_take_b350, if_neg (show ¬ mj_b2 true = 0 by decide), h3', show (2 : Int32) = nI 2 from rfl, mi_add, mi_IL (by omega), mi_IL (by omega), show (256 : Int64) = nL 256 from rfl, mi_mulL, mi_addL, e]
    refine ⟨_, rfl, mn_fr_tr f1 (mn_fr_tr (mn_fr_wl _ _) (mn_fr_wi _ 3 _ (by omega))), ?_, ?_, ?_, ?_, rfl, v2, v3⟩
    · rw [mi_wi, if_pos rfl, if_pos rfl]
    · rw [mi_wi, if_pos rfl, if_neg (by omega), mi_wl1, mi_wi, if_pos rfl, if_neg (by omega)]; exact h4
    · rw [mi_wi, if_pos rfl, if_neg (by omega), mi_wl1, mi_wi, if_pos rfl, if_pos rfl]
    · rw [mi_wl0, mi_wl, if_pos rfl, if_pos rfl, v1]
  | false =>
    have e : mk_tok S p = ((mk_ch S p, 0), p + 1) := by
      unfold mk_tok
      rw [hL, hD, if_neg (by decide), if_neg (by decide), if_neg (by rw [ht]; decide)]
    rw [if_pos (show mj_b2 false = 0 from rfl), mf_Model_take_b350, if_pos (show mj_b2 false = 0 from rfl), h3', show (1 : Int32) = nI 1 from rfl, mi_add, mi_IL (by omega), e]
    refine ⟨_, rfl, mn_fr_tr f1 (mn_fr_tr (mn_fr_wl _ _) (mn_fr_wi _ 3 _ (by omega))), ?_, ?_, ?_, ?_, rfl, Or.inl c1, by simp only; omega⟩
    · rw [mi_wi, if_pos rfl, if_pos rfl]
    · rw [mi_wi, if_pos rfl, if_neg (by omega), mi_wl1, mi_wi, if_pos rfl, if_neg (by omega)]; exact h4
    · rw [mi_wi, if_pos rfl, if_neg (by omega), mi_wl1, mi_wi, if_pos rfl, if_pos rfl]
    · rw [mi_wl0, mi_wl, if_pos rfl, if_pos rfl]
      unfold mn_v
      simp only
      rw [if_neg (by omega), if_neg (by omega), if_neg (by omega), if_neg (by omega), if_neg (by omega), if_neg (by omega)]
theorem mn_take1 (hN : 200 ≤ N) {S : List Nat} {t : mw_T} (h : mk_TM S t) {p : Nat} (hp : p ≤ S.length) (h3 : t.1 49 3 = nI p) (h32 : mk_ch S p ≠ 32) (F : Nat) : ∃ T, mf_Model_take_l0 N R (F + 1) t = some (.inl (), T) ∧ mn_tr S t T p := by
  have hS := h.1.1
  obtain ⟨c1, c2⟩ := mk_ch_lt h.1 p
  obtain ⟨M, rfl⟩ : ∃ k, N = k + 1 := ⟨N - 1, by omega⟩
  rw [me_Model_take_l0, mf_Model_take_l0B, h3, mk_characterM h p (by omega), mi_b, if_neg (show ¬ nI (mk_ch S p) = (32 : Int32) from mi_neT (b := 32) (by omega) (by omega) h32), h3, mk_characterM h p (by omega), mi_b, h3]
  have fl := mn_fr_wl t (0 : Int64)
  by_cases hpe : p < S.length
  · have c3 := c2 hpe
    rw [if_neg (show ¬ nI (mk_ch S p) = (0 : Int32) from mi_neT (b := 0) (by omega) (by omega) (by omega)), (mk_isLetter _ c1 _).2, mi_bs]
    have lxe := mk_lx_tok hpe h32
    obtain ⟨t1, t2⟩ := mk_tok_lt hpe
    cases hL : mk_isL (mk_ch S p) with
    | true =>
      rw [if_neg (show ¬ mj_b2 true = 0 by decide), mf_Model_take_b77]
      have f2 := mn_fr_tr fl (mn_fr_wi (mw_wl t 49 6 (0 : Int64)) 4 1 (by omega))
      obtain ⟨o1, o2⟩ := mk_sc_out mk_isL (by decide) S S.length p (by omega) (by omega)
      have o3 := mk_sc_le mk_isL S S.length p
      have etok : mk_tok S p = ((mk_wk (mk_wd S p (mk_sc mk_isL S S.length p)), 0), mk_sc mk_isL S S.length p) := by
        unfold mk_tok; rw [if_pos hL]
      have hin : ∀ j, p ≤ j → j < mk_sc mk_isL S S.length p → mk_isL (mk_ch S j) = true := fun j h1 h2 => mk_sc_in mk_isL S S.length p j h1 h2
      have em : p + (mk_sc mk_isL S S.length p - p) = mk_sc mk_isL S S.length p := by omega
      obtain ⟨T, a1, a2, a3, a4, a5⟩ := mn_wrd (N := M + 1) (R := R) hN (nI (mk_ch S p)) p (mk_sc mk_isL S S.length p - p) (M + 1) p (mw_wi (mw_wl t 49 6 (0 : Int64)) 49 4 1) (mn_TX h f2) (by rw [mi_wi, if_pos rfl, if_neg (by omega)]; exact h3) (by rw [mi_wi, if_pos rfl, if_pos rfl]) (Nat.le_refl _) (fun _ => by
        rw [mi_wl0, mi_wl, if_pos rfl, if_pos rfl]
        unfold mk_wd
        rw [Nat.sub_self]; rfl) (fun j h1 h2 => hin j h1 (by omega)) (by rw [em]; exact o1) (by omega) (by omega)
      rw [em] at a3 a5
      have e7 : (mw_wi (mw_wl t 49 6 (0 : Int64)) 49 4 1).1 49 7 = t.1 49 7 := by rw [mi_wi, if_pos rfl, if_neg (by omega)]; rfl
      rw [e7] at a5
      refine ⟨T, a1, mn_fr_tr f2 a2, mk_sc mk_isL S S.length p, o2, a3, ?_⟩
      rw [lxe, etok]
      have hmem := mk_wd_mem hin
      have hlen := mk_wd_len S p (mk_sc mk_isL S S.length p)
      rcases a5 with ⟨b1, b2⟩ | ⟨b1, b2, b3, b4⟩
      · refine Or.inl ⟨b1, b2.imp id (fun g => ?_)⟩
        show mk_wk (mk_wd S p (mk_sc mk_isL S S.length p)) = 2
        rcases mk_wk_sp (mk_wd S p (mk_sc mk_isL S S.length p)) with ⟨k1, _⟩ | ⟨j, j1, j2, j3⟩
        · exact k1
        · have := (mk_s_le j1).1
          rw [← j3, hlen] at this
          omega
      · refine Or.inr ⟨b1, b2, rfl, ?_⟩
        show mn_cd T (mk_wk (mk_wd S p (mk_sc mk_isL S S.length p))) 0
        have hk := mk_wk_le (mk_wd S p (mk_sc mk_isL S S.length p))
        have hpk : mn_pk (mk_wd S p (mk_sc mk_isL S S.length p)) < 9223372036854775808 := by
          have := mn_pk_lt2 (mk_wd S p (mk_sc mk_isL S S.length p)) (fun c hc => by have := hmem c hc; omega)
          have h8 : 256 ^ (mk_wd S p (mk_sc mk_isL S S.length p)).length ≤ 256 ^ 8 := Nat.pow_le_pow_right (by omega) (by rw [hlen]; omega)
          omega
        refine ⟨Or.inl (by omega), by omega, ?_, fun hk2 => ?_, fun hk2 j hj => ?_⟩
        · rw [a4]; unfold mn_c
          rw [if_neg (by omega), if_neg (by omega), if_pos (by omega)]; rfl
        · rcases mk_wk_sp (mk_wd S p (mk_sc mk_isL S S.length p)) with ⟨k1, _⟩ | ⟨j, j1, j2, j3⟩
          · exact absurd k1 hk2
          · rw [b4]; unfold mn_v
            rw [if_neg (by omega), if_neg (by omega), if_pos (by omega), mn_w, j2, Nat.add_sub_cancel, ← j3]
        · rcases mk_wk_sp (mk_wd S p (mk_sc mk_isL S S.length p)) with ⟨_, k1⟩ | ⟨j', j1, j2, j3⟩
          · rw [b4, Ne, mi_eqL hpk (mn_w_lt hj)]
            intro e
            exact k1 j hj (mn_pk_inj _ _ (fun c hc => by have := hmem c hc; omega) (fun c hc => by have := (mk_s_le hj).2 c hc; omega) e)
          · omega
    | false =>
      rw [if_pos (show mj_b2 false = 0 from rfl), (mk_isDigit _ c1 _).2, mi_bs]
      cases hD : mk_isD (mk_ch S p) with
      | true =>
        rw [if_neg (show ¬ mj_b2 true = 0 by decide), mf_Model_take_b77, me_Model_take_l80, mf_Model_take_l80B]
        have f2 := mn_fr_tr fl (mn_fr_wi (mw_wl t 49 6 (0 : Int64)) 4 2 (by omega))
        have g4 : (mw_wi (mw_wl t 49 6 (0 : Int64)) 49 4 2).1 49 4 = 2 := by rw [mi_wi, if_pos rfl, if_pos rfl]
        rw [if_neg (by rw [g4]; decide)]
        obtain ⟨o1, o2⟩ := mk_sc_out mk_isD (by decide) S S.length p (by omega) (by omega)
        have o3 := mk_sc_le mk_isD S S.length p
        have em : p + (mk_sc mk_isD S S.length p - p) = mk_sc mk_isD S S.length p := by omega
        have etok : mk_tok S p = (if 4294967295 < mk_nv S (mk_sc mk_isD S S.length p - p) p 0 then (2, 0) else (1, mk_nv S (mk_sc mk_isD S S.length p - p) p 0), mk_sc mk_isD S S.length p) := by
          unfold mk_tok; rw [if_neg (by rw [hL]; decide), if_pos hD]
        obtain ⟨T, a1, a2, a3, a4, a5, a6⟩ := mn_num (N := M + 1) (R := R) (nI (mk_ch S p)) (nI p) (mk_sc mk_isD S S.length p - p) (M + 1) p 0 (mw_wi (mw_wl t 49 6 (0 : Int64)) 49 4 2) (mn_TX h f2) (by rw [mi_wi, if_pos rfl, if_neg (by omega)]; exact h3) g4 (by rw [mi_wl0, mi_wl, if_pos rfl, if_pos rfl]; rfl) (fun j h1 h2 => mk_sc_in mk_isD S S.length p j h1 (by omega)) (by rw [em]; exact o1) (by omega) (by omega) (by omega)
        have e7 : (mw_wi (mw_wl t 49 6 (0 : Int64)) 49 4 2).1 49 7 = t.1 49 7 := by rw [mi_wi, if_pos rfl, if_neg (by omega)]; rfl
        rw [e7] at a6
        rw [em] at a3
        refine ⟨T, a1, mn_fr_tr f2 a2, mk_sc mk_isD S S.length p, o2, a3, ?_⟩
        rw [lxe, etok]
        rcases a6 with ⟨b1, b2⟩ | ⟨b1, b2, b3⟩
        · refine Or.inl ⟨b1, b2.imp id (fun g => ?_)⟩
          rw [if_pos g]; rfl
        · rw [if_neg (by omega)]
          refine Or.inr ⟨b1, b2, rfl, ?_⟩
          show mn_cd T 1 (mk_nv S (mk_sc mk_isD S S.length p - p) p 0)
          exact ⟨Or.inl (by omega), by omega, a4, fun _ => a5, fun g => (by omega)⟩
      | false =>
        rw [if_pos (show mj_b2 false = 0 from rfl), mf_Model_take_b77, me_Model_take_l80, mf_Model_take_l80B]
        have f2 := mn_fr_tr fl (mn_fr_wi (mw_wl t 49 6 (0 : Int64)) 4 3 (by omega))
        have g4 : (mw_wi (mw_wl t 49 6 (0 : Int64)) 49 4 3).1 49 4 = 3 := by rw [mi_wi, if_pos rfl, if_pos rfl]
        rw [if_neg (by rw [g4]; decide), me_Model_take_l158, mf_Model_take_l158B, if_neg (by rw [g4]; decide), mn_e0 _ _ (by rw [g4]; decide) (by rw [g4]; decide)]
        have e7 : (mw_wi (mw_wl t 49 6 (0 : Int64)) 49 4 3).1 49 7 = t.1 49 7 := by rw [mi_wi, if_pos rfl, if_neg (by omega)]; rfl
        rw [e7]
        obtain ⟨T, a1, a2, a3, a4, a5, a6, a7, a8, a9⟩ := mn_sgn (N := M + 1) (R := R) (mn_TX h f2) hpe hL hD (by rw [mi_wi, if_pos rfl, if_neg (by omega)]; exact h3) g4 (if t.1 49 7 = 0 then 0 else 1) (by
          by_cases g : t.1 49 7 = 0
          · rw [if_pos g]; exact Or.inl rfl
          · rw [if_neg g]; exact Or.inr rfl)
        refine ⟨T, a1, mn_fr_tr f2 a2, (mk_tok S p).2, t2, a3, ?_⟩
        rw [lxe]
        by_cases g : t.1 49 7 = 0
        · rw [if_pos g] at a5
          refine Or.inr ⟨a5, g, rfl, ?_⟩
          show mn_cd T (mk_tok S p).1.1 (mk_tok S p).1.2
          rw [a7]
          refine ⟨a8, by omega, ?_, fun _ => a6, fun g => (by omega)⟩
          rw [a4]; unfold mn_c
          rw [if_neg (by omega), if_neg (by omega), if_neg (by omega)]; rfl
        · rw [if_neg g] at a5
          exact Or.inl ⟨a5, Or.inl g⟩
  · have hpe' : p = S.length := by omega
    rw [mk_ch_0 (by omega), if_pos (show nI 0 = 0 from rfl), mf_Model_take_b77, me_Model_take_l80, mf_Model_take_l80B]
    have f2 := mn_fr_tr fl (mn_fr_wi (mw_wl t 49 6 (0 : Int64)) 4 0 (by omega))
    have g4 : (mw_wi (mw_wl t 49 6 (0 : Int64)) 49 4 0).1 49 4 = 0 := by rw [mi_wi, if_pos rfl, if_pos rfl]
    have e7 : (mw_wi (mw_wl t 49 6 (0 : Int64)) 49 4 0).1 49 7 = t.1 49 7 := by rw [mi_wi, if_pos rfl, if_neg (by omega)]; rfl
    rw [if_neg (by rw [g4]; decide), me_Model_take_l158, mf_Model_take_l158B, if_neg (by rw [g4]; decide), mn_e0 _ _ (by rw [g4]; decide) (by rw [g4]; decide), e7, mf_Model_take_b295, if_pos (by
      by_cases g : t.1 49 7 = 0
      · rw [if_pos g]; exact Or.inl rfl
      · rw [if_neg g]; exact Or.inr rfl), if_neg (by rw [g4]; decide)]
    refine ⟨_, rfl, mn_fr_tr f2 (mn_fr_wi _ 7 _ (by omega)), p, hp, ?_, ?_⟩
    · rw [mi_wi, if_pos rfl, if_neg (by omega), mi_wi, if_pos rfl, if_neg (by omega)]; exact h3
    · rw [mk_lx_end (by omega)]
      by_cases g : t.1 49 7 = 0
      · refine Or.inr ⟨?_, g, rfl, Or.inl (by decide), by decide, ?_, fun _ => ?_, fun g => absurd g (by decide)⟩
        · rw [mi_wi, if_pos rfl, if_pos rfl, if_pos g]
        · rw [mi_wi, if_pos rfl, if_neg (by omega)]; exact g4
        · rw [mi_wl0, mi_wl0, mi_wl, if_pos rfl, if_pos rfl]; rfl
      · exact Or.inl ⟨by rw [mi_wi, if_pos rfl, if_pos rfl, if_neg g], Or.inl g⟩
theorem mn_take (hN : 200 ≤ N) {S : List Nat} {t : mw_T} (h : mk_TM S t) {p : Nat} (hp : p ≤ S.length) (h3 : t.1 49 3 = nI p) : ∃ T, mf_Model_take N R t = some (.inl (), T) ∧ mn_tr S t T p := by
  have hS := h.1.1
  rw [mf_Model_take]
  have key : ∀ (m F p : Nat) (t : mw_T), mk_TM S t → p + m = S.length → t.1 49 3 = nI p → m < F → ∃ T, mf_Model_take_l0 N R F t = some (.inl (), T) ∧ mn_tr S t T p := by
    intro m
    induction m with
    | zero =>
      intro F p t h hp h3 hF
      obtain ⟨F, rfl⟩ : ∃ k, F = k + 1 := ⟨F - 1, by omega⟩
      exact mn_take1 hN h (by omega) h3 (by rw [mk_ch_0 (by omega)]; decide) F
    | succ m ih =>
      intro F p t h hp h3 hF
      obtain ⟨F, rfl⟩ : ∃ k, F = k + 1 := ⟨F - 1, by omega⟩
      by_cases h32 : mk_ch S p = 32
      · have fr := mn_fr_wi t 3 (nI (p + 1)) (by omega)
        obtain ⟨T, a1, a2, p', a3, a4, a5⟩ := ih F (p + 1) (mw_wi t 49 3 (nI (p + 1))) (mn_TX h fr) (by omega) (by rw [mi_wi, if_pos rfl, if_pos rfl]) (by omega)
        rw [me_Model_take_l0, mf_Model_take_l0B, h3, mk_characterM h p (by omega), mi_b, if_pos (by rw [h32]; rfl), h3, show (1 : Int32) = nI 1 from rfl, mi_add]
        have e7 : (mw_wi t 49 3 (nI (p + 1))).1 49 7 = t.1 49 7 := by rw [mi_wi, if_pos rfl, if_neg (by omega)]
        rw [e7, ← mk_lx_sp (by omega) h32] at a5
        exact ⟨T, a1, mn_fr_tr fr a2, p', a3, a4, a5⟩
      · exact mn_take1 hN h (by omega) h3 h32 F
  exact key (S.length - p) N p t h (by omega) h3 (by omega)
end
