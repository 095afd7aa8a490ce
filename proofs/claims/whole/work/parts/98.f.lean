/-! TREES in the rows of the reference (d = 0: those of compile, d = 12: those of the filter), and their values worked out there -/
def mt_nM (d : Nat) (t : mw_T) (b k a n m : Nat) (l r : mt_T) : Prop :=
  t.1 (51 + d) (b + mt_sz l + mt_sz r) = nI k ∧ t.1 (52 + d) (b + mt_sz l + mt_sz r) = nI a ∧
  (3 ≤ k → k ≤ 8 → t.1 (53 + d) (b + mt_sz l + mt_sz r) = nI (b + mt_sz l - 1)) ∧
  (k < 3 ∨ 9 ≤ k → t.1 (53 + d) (b + mt_sz l + mt_sz r) = -1) ∧
  (k = 4 ∨ k = 5 ∨ k = 6 ∨ k = 8 → t.1 (54 + d) (b + mt_sz l + mt_sz r) = nI (b + mt_sz l + mt_sz r - 1)) ∧
  (10 ≤ k → t.1 (54 + d) (b + mt_sz l + mt_sz r) = nI m) ∧
  t.1 (55 + d) (b + mt_sz l + mt_sz r) = nI b ∧
  (k = 1 ∨ k = 3 ∨ 10 ≤ k → t.2.1 (58 + d) (b + mt_sz l + mt_sz r) = nL n)
def mt_RM (d : Nat) (t : mw_T) : Nat → mt_T → Prop
  | b, .tag k (.tag a (.tag n (.tag m (.append l r)))) => mt_nM d t b k a n m l r ∧ mt_RM d t b l ∧ mt_RM d t (b + mt_sz l) r
  | _, _ => True
theorem mt_RM_nd (d : Nat) (t : mw_T) (b k a n m : Nat) (l r : mt_T) : mt_RM d t b (mt_nd k a n m l r) = (mt_nM d t b k a n m l r ∧ mt_RM d t b l ∧ mt_RM d t (b + mt_sz l) r) := by rw [mt_nd, mt_RM]
/-- only the tree's rows up to the tree's end matter -/
def mt_eqM (d e : Nat) (t T : mw_T) : Prop := ∀ i, i < e → (T.1 (51 + d) i = t.1 (51 + d) i ∧ T.1 (52 + d) i = t.1 (52 + d) i ∧ T.1 (53 + d) i = t.1 (53 + d) i ∧ T.1 (54 + d) i = t.1 (54 + d) i ∧ T.1 (55 + d) i = t.1 (55 + d) i) ∧ T.2.1 (58 + d) i = t.2.1 (58 + d) i
theorem mt_RM_eq {d e : Nat} {t T : mw_T} (h : mt_eqM d e t T) : ∀ (X : mt_T) (b : Nat), b + mt_sz X ≤ e → mt_RM d t b X → mt_RM d T b X := by
  intro X
  induction X using mt_sz.induct with
  | case1 k a n m l r ih1 ih2 =>
    intro b hb hp
    rw [mt_sz] at hb
    rw [mt_RM] at hp ⊢
    obtain ⟨⟨g1, g2, g3, g4, g5⟩, g6⟩ := h (b + mt_sz l + mt_sz r) (by omega)
    obtain ⟨⟨p1, p2, p3, p4, p5, p6, p7, p8⟩, hl, hr⟩ := hp
    refine ⟨⟨?_, ?_, fun a b => ?_, fun a => ?_, fun a => ?_, fun a => ?_, ?_, fun a => ?_⟩, ih1 b (by omega) hl, ih2 _ (by omega) hr⟩
    · rw [g1]; exact p1
    · rw [g2]; exact p2
    · rw [g3]; exact p3 a b
    · rw [g3]; exact p4 a
    · rw [g4]; exact p5 a
    · rw [g4]; exact p6 a
    · rw [g5]; exact p7
    · rw [g6]; exact p8 a
  | case2 X hX =>
    intro b _ _
    rw [mt_RM]
    · trivial
    · exact hX
section
variable {N R : Nat} {pk : Nat → Nat} {n : Nat}
theorem mq_mhead (hN : 6 ≤ N) {t : mw_T} (h : mi_PktW pk n t) (hn : 15 ≤ n) : mf_Model_head N R t = some (.inl (nL (mq_hd pk)), t) := by
  have e3 : mf_Model_field N R (14 : Int64) (1 : Int32) t = mi_rj t (mi_fld pk n 14 1) := mi_mfield N R hN h 14 1 (by omega) (by omega)
  have e4 := mq_head h hn
  rw [mf_Model_head, e3]
  cases hf : mi_fld pk n 14 1 with
  | none => rw [hf] at e4; cases e4
  | some v =>
    rw [hf, Option.map_some] at e4
    injection e4 with e4
    rw [mi_rj, mi_b, e4]
/-- how the reference's loop goes on: rejected, it ends -/
def mq_om (N R node i g : Nat) (t : mw_T) : Option Int64 → mw_X Int32
  | none => mf_Model_isRelated_b114 N R (nI node) (mw_wl (mw_wi t 49 53 1) 71 i 0)
  | some v => mf_Model_isRelated_l85 N R g (nI node) (nI (i + 1)) (mw_wl t 71 i v)
theorem mq_mrel (node i g : Nat) {t : mw_T} {r : Option Int64} (hi : i < node) (hn : node < 170) (h0 : t.1 49 53 = 0) (hg : 1 ≤ g) (hv : mf_Model_valueOf N R (nI i) t = mi_rj t r) : mf_Model_isRelated_l85 N R (g + 1) (nI node) (nI i) t = mq_om N R node i g t r := by
  have hin : mj_in (nI i) 170 = true := mi_inT (by omega) (by omega)
  rw [me_Model_isRelated_l85, mf_Model_isRelated_l85B, if_pos (mi_ltT (by omega) hi), if_pos h0, hv]
  cases r with
  | none =>
    rw [mi_rj, mi_b, if_pos hin, mi_tn (by omega), mi_l1, mi_add]
    obtain ⟨f, rfl⟩ : ∃ f, g = f + 1 := ⟨g - 1, by omega⟩
    rw [me_Model_isRelated_l85, mf_Model_isRelated_l85B, if_neg (show ¬ (mw_wl (mw_wi t 49 53 1) 71 i 0).1 49 53 = 0 from (by decide : ¬ (1 : Int32) = 0)), mq_om]
    split <;> rfl
  | some v => rw [mi_rj, mi_b, if_pos hin, mi_tn (by omega), mi_l1, mi_add]; rfl
theorem mq_mval (hN : 6 ≤ N) (node : Nat) (hnode : node < 170) : ∀ (X : mt_T), mt_V X → ∀ (b g : Nat) (t : mw_T), 1 ≤ g → mi_PktW pk n t → t.1 49 53 = 0 → mt_RM 12 t b X → (mt_ac 2 X = true ∨ mt_ac 3 X = true → 15 ≤ n) → b + mt_sz X ≤ node →
    match mt_vS pk n X with
    | none => ∃ T, mf_Model_isRelated_l85 N R (mt_sz X + g) (nI node) (nI b) t = mf_Model_isRelated_b114 N R (nI node) T ∧ T.1 49 53 = 1 ∧ mi_fr [] 0 [(49, 53), (71, 1000)] t T
    | some v => ∃ T, mf_Model_isRelated_l85 N R (mt_sz X + g) (nI node) (nI b) t = mf_Model_isRelated_l85 N R g (nI node) (nI (b + mt_sz X)) T ∧ T.1 = t.1 ∧ (∀ q i, q ≠ 71 → T.2.1 q i = t.2.1 q i) ∧ (∀ i, i < b → T.2.1 71 i = t.2.1 71 i) ∧ T.2.1 71 (b + mt_sz X - 1) = v := by
  have keep : ∀ {t T : mw_T}, T.1 = t.1 → mi_PktW pk n t → mi_PktW pk n T := by
    intro t T h1 h
    obtain ⟨q1, q2, q3, q4⟩ := h
    exact ⟨q1, by rw [h1]; exact q2, by rw [h1]; exact q3, fun j hj => by rw [h1]; exact q4 j hj⟩
  have keepR : ∀ {t T : mw_T} (e : Nat), T.1 = t.1 → (∀ q i, q ≠ 71 → T.2.1 q i = t.2.1 q i) → mt_eqM 12 e t T := by
    intro t T e h1 h2 i _
    exact ⟨⟨by rw [h1], by rw [h1], by rw [h1], by rw [h1], by rw [h1]⟩, h2 _ _ (by omega)⟩
  -- an end by rejection
  have rej : ∀ {t T : mw_T} (i : Nat), T.1 = t.1 → (∀ q i, q ≠ 71 → T.2.1 q i = t.2.1 q i) → (mw_wl (mw_wi T 49 53 1) 71 i 0).1 49 53 = 1 ∧ mi_fr [] 0 [(49, 53), (71, 1000)] t (mw_wl (mw_wi T 49 53 1) 71 i 0) := by
    intro t T i h1 h2
    refine ⟨rfl, fun q j hq => ⟨?_, ?_⟩⟩
    · rw [mi_wl1]
      show mj_up T.1 49 53 1 q j = _
      rw [mw_up_ne (fun hc => hq (Or.inr ⟨(49, 53), by simp, hc.1, Or.inr hc.2⟩)), h1]
    · show mj_up T.2.1 71 i 0 q j = _
      have hq' : q ≠ 71 := fun hc => hq (Or.inr ⟨(71, 1000), by simp, hc, Or.inl rfl⟩)
      rw [mw_up_ne (fun hc => hq' hc.1), h2 q j hq']
  intro X hX
  refine mt_Vind (P := fun X => ∀ (b g : Nat) (t : mw_T), 1 ≤ g → mi_PktW pk n t → t.1 49 53 = 0 → mt_RM 12 t b X → (mt_ac 2 X = true ∨ mt_ac 3 X = true → 15 ≤ n) → b + mt_sz X ≤ node →
    match mt_vS pk n X with
    | none => ∃ T, mf_Model_isRelated_l85 N R (mt_sz X + g) (nI node) (nI b) t = mf_Model_isRelated_b114 N R (nI node) T ∧ T.1 49 53 = 1 ∧ mi_fr [] 0 [(49, 53), (71, 1000)] t T
    | some v => ∃ T, mf_Model_isRelated_l85 N R (mt_sz X + g) (nI node) (nI b) t = mf_Model_isRelated_l85 N R g (nI node) (nI (b + mt_sz X)) T ∧ T.1 = t.1 ∧ (∀ q i, q ≠ 71 → T.2.1 q i = t.2.1 q i) ∧ (∀ i, i < b → T.2.1 71 i = t.2.1 71 i) ∧ T.2.1 71 (b + mt_sz X - 1) = v) ?_ ?_ ?_ ?_ X hX
  · intro a m c hm b g t hg h h0 hR hac hb
    rw [mt_RM_nd, mt_nM] at hR
    rw [mt_sz_nd, mt_sz_0] at hb ⊢
    simp only [mt_sz_0, Nat.add_zero] at hR
    obtain ⟨⟨p1, p2, p3, p4, p5, p6, p7, p8⟩, -, -⟩ := hR
    have hin : mj_in (nI b) 170 = true := mi_inT (by omega) (by omega)
    have hv : mf_Model_valueOf N R (nI b) t = mi_rj t (some (nL m)) := by
      rw [mf_Model_valueOf, if_pos hin, mi_tn (by omega), p4 (by simp), if_pos (by decide), mf_Model_valueOf_b24, if_pos hin, mi_tn (by omega), p1, if_pos (show nI 1 = (1 : Int32) from rfl), if_pos hin, p8 (by simp)]; rfl
    rw [mt_vS_1, show 0 + 0 + 1 + g = g + 1 by omega, mq_mrel node b g (by omega) hnode h0 hg hv, mq_om]
    exact ⟨_, rfl, rfl, fun q i hq => by rw [mi_wl, if_neg hq], fun i hi => by rw [mi_wl, if_pos rfl, if_neg (by omega)], by rw [mi_wl, if_pos rfl, if_pos (by omega)]⟩
  · intro a m c b g t hg h h0 hR hac hb
    rw [mt_RM_nd, mt_nM] at hR
    rw [mt_sz_nd, mt_sz_0] at hb ⊢
    simp only [mt_sz_0, Nat.add_zero] at hR
    obtain ⟨⟨p1, p2, p3, p4, p5, p6, p7, p8⟩, -, -⟩ := hR
    have hl := h.1
    have hin : mj_in (nI b) 170 = true := mi_inT (by omega) (by omega)
    have hv : mf_Model_valueOf N R (nI b) t = mi_rj t (some (nL n)) := by
      rw [mf_Model_valueOf, if_pos hin, mi_tn (by omega), p4 (by simp), if_pos (by decide), mf_Model_valueOf_b24, if_pos hin, mi_tn (by omega), p1, if_neg (show ¬ nI 2 = (1 : Int32) by decide), if_pos hin, if_pos (show nI 2 = (2 : Int32) from rfl), h.2.2.1, mi_IL (by omega)]; rfl
    rw [mt_vS_2, show 0 + 0 + 1 + g = g + 1 by omega, mq_mrel node b g (by omega) hnode h0 hg hv, mq_om]
    exact ⟨_, rfl, rfl, fun q i hq => by rw [mi_wl, if_neg hq], fun i hi => by rw [mi_wl, if_pos rfl, if_neg (by omega)], by rw [mi_wl, if_pos rfl, if_pos (by omega)]⟩
  · intro a m c l ha hm hl ih b g t hg h h0 hR hac hb
    rw [mt_RM_nd, mt_nM] at hR
    rw [mt_sz_nd, mt_sz_0] at hb ⊢
    simp only [mt_sz_0, Nat.add_zero] at hR
    obtain ⟨⟨p1, p2, p3, p4, p5, p6, p7, p8⟩, hRl, -⟩ := hR
    have hpos := mt_V_pos hl
    rw [mt_ac_nd, mt_ac_nd] at hac
    have hacl : mt_ac 2 l = true ∨ mt_ac 3 l = true → 15 ≤ n := fun hh => hac (by rcases hh with hh | hh <;> simp [hh])
    have haca : a = 2 ∨ a = 3 → 15 ≤ n := fun hh => hac (by rcases hh with rfl | rfl <;> simp)
    have IH := ih b (g + 1) t (by omega) h h0 hRl hacl (by omega)
    rw [mt_vS_3, show mt_sz l + 0 + 1 + g = mt_sz l + (g + 1) by omega]
    cases hvl : mt_vS pk n l with
    | none => rw [hvl] at IH; exact IH
    | some v =>
      rw [hvl] at IH
      obtain ⟨T, e1, e2, e3, e4, e5⟩ := IH
      simp only
      rw [e1]
      have hin : mj_in (nI (b + mt_sz l)) 170 = true := mi_inT (by omega) (by omega)
      have hin2 : mj_in (nI (b + mt_sz l - 1)) 170 = true := mi_inT (by omega) (by omega)
      have h0' : T.1 49 53 = 0 := by rw [e2]; exact h0
      have hb128 : ∀ w : Int64, mf_Model_valueOf_b128 N R (nI (b + mt_sz l)) v w T = mi_rj T (mi_fld pk n (mi_n ((v + w) &&& (4294967295 : Int64))) m) := by
        intro w
        obtain ⟨g1, g2⟩ := mi_n_u (mi_u_mask (v + w))
        rw [mf_Model_valueOf_b128, if_pos h0', if_pos hin, mi_tn (by omega), e3 _ _ (by decide), p8 (by simp), mi_LI]
        conv => lhs; rw [g1]
        rw [mi_mfield N R hN (keep e2 h) _ m (by omega) g2]
        cases mi_fld pk n (mi_n ((v + w) &&& (4294967295 : Int64))) m <;> rfl
      have hv : mf_Model_valueOf N R (nI (b + mt_sz l)) T = mi_rj T (mi_fld pk n (mi_n ((v + nL (mq_base pk a)) &&& (4294967295 : Int64))) m) := by
        rw [mf_Model_valueOf, if_pos hin, mi_tn (by omega), e2, p3 (by omega) (by omega), if_neg (mi_lt0 _ (by omega)), if_pos hin, if_pos hin2, mi_tn (by omega), e5, mf_Model_valueOf_b24, if_pos hin, mi_tn (by omega), e2, p1, if_neg (show ¬ nI 3 = (1 : Int32) by decide), if_pos hin, if_neg (show ¬ nI 3 = (2 : Int32) by decide), if_pos hin, if_neg (show ¬ nI 3 = (4 : Int32) by decide), if_pos hin, p2]
        have : a = 0 ∨ a = 1 ∨ a = 2 ∨ a = 3 := by omega
        rcases this with rfl | rfl | rfl | rfl
        · rw [if_pos (show nI 0 = (0 : Int32) from rfl), hb128]; rfl
        · rw [if_neg (show ¬ nI 1 = (0 : Int32) by decide), if_pos hin, if_pos (show nI 1 = (1 : Int32) from rfl), hb128]; rfl
        · rw [if_neg (show ¬ nI 2 = (0 : Int32) by decide), if_pos hin, if_neg (show ¬ nI 2 = (1 : Int32) by decide), mq_mhead hN (keep e2 h) (haca (by omega)), mi_b, show (14 : Int64) = nL 14 from rfl, mi_addL, hb128]; rfl
        · rw [if_neg (show ¬ nI 3 = (0 : Int32) by decide), if_pos hin, if_neg (show ¬ nI 3 = (1 : Int32) by decide), mq_mhead hN (keep e2 h) (haca (by omega)), mi_b, show (14 : Int64) = nL 14 from rfl, mi_addL, hb128]; rfl
      rw [mq_mrel node (b + mt_sz l) g (by omega) hnode h0' hg hv]
      cases hf : mi_fld pk n (mi_n ((v + nL (mq_base pk a)) &&& (4294967295 : Int64))) m with
      | none => exact ⟨_, rfl, rej _ e2 e3⟩
      | some w =>
        refine ⟨_, rfl, e2, fun q i hq => ?_, fun i hi => ?_, ?_⟩
        · rw [mi_wl, if_neg hq]; exact e3 q i hq
        · rw [mi_wl, if_pos rfl, if_neg (by omega)]; exact e4 i hi
        · rw [mi_wl, if_pos rfl, if_pos (by omega)]
  · intro a m c l r ha hl hr ih1 ih2 b g t hg h h0 hR hac hb
    rw [mt_RM_nd, mt_nM] at hR
    rw [mt_sz_nd] at hb ⊢
    obtain ⟨⟨p1, p2, p3, p4, p5, p6, p7, p8⟩, hRl, hRr⟩ := hR
    have hpos := mt_V_pos hl
    have hpos2 := mt_V_pos hr
    rw [mt_ac_nd, mt_ac_nd] at hac
    have hacl : mt_ac 2 l = true ∨ mt_ac 3 l = true → 15 ≤ n := fun hh => hac (by rcases hh with hh | hh <;> simp [hh])
    have hacr : mt_ac 2 r = true ∨ mt_ac 3 r = true → 15 ≤ n := fun hh => hac (by rcases hh with hh | hh <;> simp [hh])
    have IH := ih1 b (mt_sz r + (g + 1)) t (by omega) h h0 hRl hacl (by omega)
    rw [mt_vS_4, show mt_sz l + mt_sz r + 1 + g = mt_sz l + (mt_sz r + (g + 1)) by omega]
    cases hvl : mt_vS pk n l with
    | none => rw [hvl] at IH; exact IH
    | some v =>
      rw [hvl] at IH
      obtain ⟨T, e1, e2, e3, e4, e5⟩ := IH
      simp only
      rw [e1]
      have h0' : T.1 49 53 = 0 := by rw [e2]; exact h0
      have IH2 := ih2 (b + mt_sz l) (g + 1) T (by omega) (keep e2 h) h0' (mt_RM_eq (keepR 170 e2 e3) _ _ (by omega) hRr) hacr (by omega)
      cases hvr : mt_vS pk n r with
      | none =>
        rw [hvr] at IH2
        obtain ⟨T', f1, f2, f3⟩ := IH2
        refine ⟨T', f1, f2, fun q i hq => ?_⟩
        obtain ⟨g1, g2⟩ := f3 q i hq
        have hq' : q ≠ 71 := fun hc => hq (Or.inr ⟨(71, 1000), by simp, hc, Or.inl rfl⟩)
        exact ⟨g1.trans (by rw [e2]), g2.trans (e3 q i hq')⟩
      | some w =>
        rw [hvr] at IH2
        obtain ⟨T2, f1, f2, f3, f4, f5⟩ := IH2
        simp only
        rw [f1]
        have h0'' : T2.1 49 53 = 0 := by rw [f2]; exact h0'
        have hin : mj_in (nI (b + mt_sz l + mt_sz r)) 170 = true := mi_inT (by omega) (by omega)
        have hin2 : mj_in (nI (b + mt_sz l - 1)) 170 = true := mi_inT (by omega) (by omega)
        have hin3 : mj_in (nI (b + mt_sz l + mt_sz r - 1)) 170 = true := mi_inT (by omega) (by omega)
        have hv : mf_Model_valueOf N R (nI (b + mt_sz l + mt_sz r)) T2 = mi_rj T2 (mi_cmb (nI a) v w) := by
          rw [mf_Model_valueOf, if_pos hin, mi_tn (by omega), f2, e2, p3 (by omega) (by omega), if_neg (mi_lt0 _ (by omega)), if_pos hin, if_pos hin2, mi_tn (by omega), f4 _ (by omega), e5, mf_Model_valueOf_b24, if_pos hin, mi_tn (by omega), f2, e2, p1, if_neg (show ¬ nI 4 = (1 : Int32) by decide), if_pos hin, if_neg (show ¬ nI 4 = (2 : Int32) by decide), if_pos hin, if_pos (show nI 4 = (4 : Int32) from rfl), if_pos hin, if_pos hin, p5 (by omega), if_pos hin3, mi_tn (by omega), f5, p2, mi_worked N R _ _ _ T2 h0'']
          cases mi_cmb (nI a) v w <;> rfl
        rw [mq_mrel node (b + mt_sz l + mt_sz r) g (by omega) hnode h0'' hg hv]
        cases hf : mi_cmb (nI a) v w with
        | none => exact ⟨_, rfl, rej _ (f2.trans e2) (fun q i hq => (f3 q i hq).trans (e3 q i hq))⟩
        | some x =>
          refine ⟨mw_wl T2 71 (b + mt_sz l + mt_sz r) x, by rw [mq_om, show b + mt_sz l + mt_sz r + 1 = b + (mt_sz l + mt_sz r + 1) by omega], f2.trans e2, fun q i hq => ?_, fun i hi => ?_, ?_⟩
          · rw [mi_wl, if_neg hq]; exact (f3 q i hq).trans (e3 q i hq)
          · rw [mi_wl, if_pos rfl, if_neg (by omega)]; exact (f4 i (by omega)).trans (e4 i hi)
          · rw [mi_wl, if_pos rfl, if_pos (by omega)]
end
