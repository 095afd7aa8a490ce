/-! THE LABELS of the reference -/
section
variable {N R : Nat}
theorem mt_fleaf (hN : 170 ≤ N) : ∀ (X : mt_T), mt_C X → ∀ (b F : Nat) (t : mw_T), mt_RM 0 t b X → b + mt_sz X ≤ 170 → mt_sz X ≤ F → mf_Model_firstLeaf_l2 N R F (nI (b + mt_sz X - 1)) t = some (.inl (nI (mt_fl b X)), t) := by
  have leaf : ∀ (k a m c : Nat) (l r : mt_T), 8 ≤ k → k < 100 → ∀ (b F : Nat) (t : mw_T), mt_RM 0 t b (mt_nd k a m c l r) → b + mt_sz (mt_nd k a m c l r) ≤ 170 → mt_sz (mt_nd k a m c l r) ≤ F → mf_Model_firstLeaf_l2 N R F (nI (b + mt_sz (mt_nd k a m c l r) - 1)) t = some (.inl (nI (mt_fl b (mt_nd k a m c l r))), t) := by
    intro k a m c l r hk hk2 b F t hR hb hF
    rw [mt_sz_nd] at hb hF ⊢
    rw [mt_RM_nd, mt_nM] at hR
    obtain ⟨⟨p1, -⟩, -, -⟩ := hR
    have hin : mj_in (nI (b + mt_sz l + mt_sz r)) 170 = true := mi_inT (by omega) (by omega)
    obtain ⟨F', rfl⟩ : ∃ F', F = F' + 1 := ⟨F - 1, by omega⟩
    rw [mt_fl_nd, if_neg (by omega), show b + (mt_sz l + mt_sz r + 1) - 1 = b + mt_sz l + mt_sz r by omega, me_Model_firstLeaf_l2, mf_Model_firstLeaf_l2B, if_pos hin, mi_tn (by omega), p1, if_neg (show ¬ nI k < (8 : Int32) from mi_ltF (b := 8) (by omega) (by omega))]
  have inner : ∀ (k a m c : Nat) (l r : mt_T), (k = 5 ∨ k = 6 ∨ k = 7) → mt_C l → (∀ (b F : Nat) (t : mw_T), mt_RM 0 t b l → b + mt_sz l ≤ 170 → mt_sz l ≤ F → mf_Model_firstLeaf_l2 N R F (nI (b + mt_sz l - 1)) t = some (.inl (nI (mt_fl b l)), t)) → ∀ (b F : Nat) (t : mw_T), mt_RM 0 t b (mt_nd k a m c l r) → b + mt_sz (mt_nd k a m c l r) ≤ 170 → mt_sz (mt_nd k a m c l r) ≤ F → mf_Model_firstLeaf_l2 N R F (nI (b + mt_sz (mt_nd k a m c l r) - 1)) t = some (.inl (nI (mt_fl b (mt_nd k a m c l r))), t) := by
    intro k a m c l r hk hl ih b F t hR hb hF
    rw [mt_sz_nd] at hb hF ⊢
    rw [mt_RM_nd, mt_nM] at hR
    obtain ⟨⟨p1, p2, p3, -⟩, hRl, -⟩ := hR
    have hpos := mt_C_pos hl
    have hin : mj_in (nI (b + mt_sz l + mt_sz r)) 170 = true := mi_inT (by omega) (by omega)
    obtain ⟨F', rfl⟩ : ∃ F', F = F' + 1 := ⟨F - 1, by omega⟩
    rw [mt_fl_nd, if_pos hk, show b + (mt_sz l + mt_sz r + 1) - 1 = b + mt_sz l + mt_sz r by omega, me_Model_firstLeaf_l2, mf_Model_firstLeaf_l2B, if_pos hin, mi_tn (by omega), p1, if_pos (show nI k < (8 : Int32) from mi_ltT (b := 8) (by omega) (by omega)), if_pos hin, p3 (by omega) (by omega)]
    exact ih b F' t hRl (by omega) (by omega)
  intro X hX
  refine mt_Cind (P := fun X => ∀ (b F : Nat) (t : mw_T), mt_RM 0 t b X → b + mt_sz X ≤ 170 → mt_sz X ≤ F → mf_Model_firstLeaf_l2 N R F (nI (b + mt_sz X - 1)) t = some (.inl (nI (mt_fl b X)), t)) ?_ ?_ ?_ ?_ ?_ X hX
  · intro k a m c l r hk hl hr ih1 ih2
    exact inner k a m c l r (by omega) hl ih1
  · intro a m c l hl ih
    exact inner 7 a m c l mt_0 (by omega) hl ih
  · intro a m c l r ha hb' hl hr
    exact leaf 8 a m c l r (by omega) (by omega)
  · intro a m c ha hb'
    exact leaf 9 a m c mt_0 mt_0 (by omega) (by omega)
  · intro k a m c hk ha hm hc
    exact leaf k a m c mt_0 mt_0 (by omega) (by omega)
/-- rows 56 and 57 alone may change, below this place -/
def mi_lq (b e : Nat) (t T : mw_T) : Prop := T.2 = t.2 ∧ (∀ q i, q ≠ 56 → q ≠ 57 → T.1 q i = t.1 q i) ∧ ∀ i, i < b ∨ e ≤ i → T.1 56 i = t.1 56 i ∧ T.1 57 i = t.1 57 i
theorem mi_lq_tr {b e b' e' : Nat} {t u T : mw_T} (h : mi_lq b e t u) (g : mi_lq b' e' u T) (h1 : b ≤ b') (h2 : e' ≤ e) : mi_lq b e t T := by
  refine ⟨g.1.trans h.1, fun q i g1 g2 => (g.2.1 q i g1 g2).trans (h.2.1 q i g1 g2), fun i hi => ?_⟩
  obtain ⟨a1, a2⟩ := h.2.2 i hi
  obtain ⟨b1, b2⟩ := g.2.2 i (by omega)
  exact ⟨b1.trans a1, b2.trans a2⟩
theorem mt_RM_lq {b e : Nat} {t T : mw_T} (h : mi_lq b e t T) {X : mt_T} {b' : Nat} (hR : mt_RM 0 t b' X) : mt_RM 0 T b' X := by
  refine mt_RM_eq (e := b' + mt_sz X) (fun i _ => ⟨⟨?_, ?_, ?_, ?_, ?_⟩, ?_⟩) _ _ (Nat.le_refl _) hR
  · exact h.2.1 51 i (by decide) (by decide)
  · exact h.2.1 52 i (by decide) (by decide)
  · exact h.2.1 53 i (by decide) (by decide)
  · exact h.2.1 54 i (by decide) (by decide)
  · exact h.2.1 55 i (by decide) (by decide)
  · rw [h.1]
/-- values of a leaf are passed by -/
theorem mt_lk_val : ∀ (X : mt_T), mt_V X → ∀ (b g : Nat) (t : mw_T), mt_RM 0 t b X → b + mt_sz X ≤ 170 → mf_Model_link_l32 N R (g + mt_sz X) (nI (b + mt_sz X) + Int32.ofInt (-1)) t = mf_Model_link_l32 N R g (nI b + Int32.ofInt (-1)) t := by
  have hm1 : ∀ i : Nat, nI (i + 1) + Int32.ofInt (-1) = nI i := by
    intro i
    rw [show Int32.ofInt (-1) = -1 from rfl, ← mi_add, Int32.add_assoc, show nI 1 + (-1 : Int32) = 0 by decide, Int32.add_zero]
  have turn : ∀ (i g k : Nat) (t : mw_T), i < 170 → k < 5 → t.1 51 i = nI k → mf_Model_link_l32 N R (g + 1) (nI (i + 1) + Int32.ofInt (-1)) t = mf_Model_link_l32 N R g (nI i + Int32.ofInt (-1)) t := by
    intro i g k t hi hk q
    have hin : mj_in (nI i) 170 = true := mi_inT (by omega) hi
    rw [hm1, me_Model_link_l32, mf_Model_link_l32B, if_neg (mi_lt0 i (by omega)), if_pos hin, if_pos hin, if_pos hin, mi_tn (by omega), q, if_neg (show ¬ nI k = (7 : Int32) from mi_neT (b := 7) (by omega) (by omega) (by omega)), if_pos hin, if_neg (show ¬ nI k = (5 : Int32) from mi_neT (b := 5) (by omega) (by omega) (by omega)), if_pos hin, if_neg (show ¬ nI k = (6 : Int32) from mi_neT (b := 6) (by omega) (by omega) (by omega)), mf_Model_link_b194]
  intro X hX
  refine mt_Vind (P := fun X => ∀ (b g : Nat) (t : mw_T), mt_RM 0 t b X → b + mt_sz X ≤ 170 → mf_Model_link_l32 N R (g + mt_sz X) (nI (b + mt_sz X) + Int32.ofInt (-1)) t = mf_Model_link_l32 N R g (nI b + Int32.ofInt (-1)) t) ?_ ?_ ?_ ?_ X hX
  · intro a n m hn b g t hR hb
    rw [mt_RM_nd, mt_nM] at hR
    rw [mt_sz_nd, mt_sz_0] at hb ⊢
    exact turn b g 1 t (by omega) (by omega) hR.1.1
  · intro a n m b g t hR hb
    rw [mt_RM_nd, mt_nM] at hR
    rw [mt_sz_nd, mt_sz_0] at hb ⊢
    exact turn b g 2 t (by omega) (by omega) hR.1.1
  · intro a n m l ha hn hl ih b g t hR hb
    rw [mt_RM_nd, mt_nM] at hR
    rw [mt_sz_nd, mt_sz_0] at hb ⊢
    have := turn (b + mt_sz l) (g + mt_sz l) 3 t (by omega) (by omega) hR.1.1
    rw [show g + (mt_sz l + 0 + 1) = g + mt_sz l + 1 by omega, show b + (mt_sz l + 0 + 1) = b + mt_sz l + 1 by omega, this]
    exact ih b g t hR.2.1 (by omega)
  · intro a n m l r ha hl hr ih1 ih2 b g t hR hb
    rw [mt_RM_nd, mt_nM] at hR
    rw [mt_sz_nd] at hb ⊢
    have := turn (b + mt_sz l + mt_sz r) (g + mt_sz l + mt_sz r) 4 t (by omega) (by omega) hR.1.1
    rw [show g + (mt_sz l + mt_sz r + 1) = g + mt_sz l + mt_sz r + 1 by omega, show b + (mt_sz l + mt_sz r + 1) = b + mt_sz l + mt_sz r + 1 by omega, this, ih2 (b + mt_sz l) (g + mt_sz l) t hR.2.2 (by omega)]
    exact ih1 b g t hR.2.1 (by omega)
theorem mt_LB_hi {d e : Nat} {t T : mw_T} (hq : ∀ i, e ≤ i → T.1 (56 + d) i = t.1 (56 + d) i ∧ T.1 (57 + d) i = t.1 (57 + d) i) : ∀ (X : mt_T) (b : Nat) (h f : Int32), e ≤ b → mt_LB d t b X h f → mt_LB d T b X h f := by
  intro X
  induction X using mt_sz.induct with
  | case1 k a n m l r ih1 ih2 =>
    intro b h f hb hp
    rw [mt_LB] at hp ⊢
    obtain ⟨p1, p2, p3, p4, p5⟩ := hp
    obtain ⟨g1, g2⟩ := hq (b + mt_sz l + mt_sz r) (by omega)
    exact ⟨g1.trans p1, g2.trans p2, fun hk => ⟨ih1 _ _ _ hb (p3 hk).1, ih2 _ _ _ (by omega) (p3 hk).2⟩, fun hk => ⟨ih1 _ _ _ hb (p4 hk).1, ih2 _ _ _ (by omega) (p4 hk).2⟩, fun hk => ih1 _ _ _ hb (p5 hk)⟩
  | case2 X hX =>
    intro b h f _ _
    rw [mt_LB]
    · trivial
    · exact hX
theorem mt_lk (hN : 170 ≤ N) : ∀ (X : mt_T), mt_C X → ∀ (b g : Nat) (h f : Int32) (t : mw_T), mt_RM 0 t b X → b + mt_sz X ≤ 170 → t.1 56 (b + mt_sz X - 1) = h → t.1 57 (b + mt_sz X - 1) = f → ∃ T, mf_Model_link_l32 N R (g + mt_sz X) (nI (b + mt_sz X) + Int32.ofInt (-1)) t = mf_Model_link_l32 N R g (nI b + Int32.ofInt (-1)) T ∧ mi_lq b (b + mt_sz X - 1) t T ∧ mt_LB 0 T b X h f := by
  have hm1 : ∀ i : Nat, nI (i + 1) + Int32.ofInt (-1) = nI i := by
    intro i
    rw [show Int32.ofInt (-1) = -1 from rfl, ← mi_add, Int32.add_assoc, show nI 1 + (-1 : Int32) = 0 by decide, Int32.add_zero]
  have passby : ∀ (i g k : Nat) (t : mw_T), i < 170 → k < 100 → 8 ≤ k → t.1 51 i = nI k → mf_Model_link_l32 N R (g + 1) (nI (i + 1) + Int32.ofInt (-1)) t = mf_Model_link_l32 N R g (nI i + Int32.ofInt (-1)) t := by
    intro i g k t hi hk hk8 q
    have hin : mj_in (nI i) 170 = true := mi_inT (by omega) hi
    rw [hm1, me_Model_link_l32, mf_Model_link_l32B, if_neg (mi_lt0 i (by omega)), if_pos hin, if_pos hin, if_pos hin, mi_tn (by omega), q, if_neg (show ¬ nI k = (7 : Int32) from mi_neT (b := 7) (by omega) (by omega) (by omega)), if_pos hin, if_neg (show ¬ nI k = (5 : Int32) from mi_neT (b := 5) (by omega) (by omega) (by omega)), if_pos hin, if_neg (show ¬ nI k = (6 : Int32) from mi_neT (b := 6) (by omega) (by omega) (by omega)), mf_Model_link_b194]
  intro X hX
  refine mt_Cind (P := fun X => ∀ (b g : Nat) (h f : Int32) (t : mw_T), mt_RM 0 t b X → b + mt_sz X ≤ 170 → t.1 56 (b + mt_sz X - 1) = h → t.1 57 (b + mt_sz X - 1) = f → ∃ T, mf_Model_link_l32 N R (g + mt_sz X) (nI (b + mt_sz X) + Int32.ofInt (-1)) t = mf_Model_link_l32 N R g (nI b + Int32.ofInt (-1)) T ∧ mi_lq b (b + mt_sz X - 1) t T ∧ mt_LB 0 T b X h f) ?_ ?_ ?_ ?_ ?_ X hX
  · intro k a n m l r hk hl hr ih1 ih2 b g h f t hR hb h56 h57
    rw [mt_sz_nd] at hb h56 h57 ⊢
    rw [show b + (mt_sz l + mt_sz r + 1) - 1 = b + mt_sz l + mt_sz r by omega] at h56 h57 ⊢
    rw [mt_RM_nd, mt_nM] at hR
    obtain ⟨⟨p1, p2, p3, p4, p5, p6, p7, p8⟩, hRl, hRr⟩ := hR
    have hpos := mt_C_pos hl
    have hpos2 := mt_C_pos hr
    have hin : mj_in (nI (b + mt_sz l + mt_sz r)) 170 = true := mi_inT (by omega) (by omega)
    have hinl : mj_in (nI (b + mt_sz l - 1)) 170 = true := mi_inT (by omega) (by omega)
    have hinr : mj_in (nI (b + mt_sz l + mt_sz r - 1)) 170 = true := mi_inT (by omega) (by omega)
    -- the labels of the two parts
    have set : ∃ T, mf_Model_link_l32 N R (g + (mt_sz l + mt_sz r + 1)) (nI (b + (mt_sz l + mt_sz r + 1)) + Int32.ofInt (-1)) t = mf_Model_link_l32 N R (g + mt_sz l + mt_sz r) (nI (b + mt_sz l + mt_sz r) + Int32.ofInt (-1)) T ∧ mi_lq b (b + mt_sz l + mt_sz r) t T ∧ T.1 56 (b + mt_sz l + mt_sz r - 1) = h ∧ T.1 57 (b + mt_sz l + mt_sz r - 1) = f ∧ T.1 56 (b + mt_sz l - 1) = (if k = 5 then nI (mt_fl (b + mt_sz l) r) else h) ∧ T.1 57 (b + mt_sz l - 1) = (if k = 6 then nI (mt_fl (b + mt_sz l) r) else f) := by
      -- the state after each write
      have fl : ∀ T : mw_T, mt_RM 0 T (b + mt_sz l) r → mf_Model_firstLeaf N R (nI (b + mt_sz l + mt_sz r - 1)) T = some (.inl (nI (mt_fl (b + mt_sz l) r)), T) := fun T hRT => mt_fleaf hN r hr (b + mt_sz l) N T hRT (by omega) (by omega)
      have RMw : ∀ {T : mw_T} {q i : Nat} {v : Int32}, (q = 56 ∨ q = 57) → mt_RM 0 T (b + mt_sz l) r → mt_RM 0 (mw_wi T q i v) (b + mt_sz l) r := by
        intro T q i v hq hRT
        refine mt_RM_eq (t := T) (T := mw_wi T q i v) (e := b + mt_sz l + mt_sz r) (fun j _ => ⟨⟨?_, ?_, ?_, ?_, ?_⟩, rfl⟩) _ _ (Nat.le_refl _) hRT
        all_goals (rw [mi_wi, if_neg (by omega)])
      have h109 : mf_Model_link_l32 N R (g + (mt_sz l + mt_sz r + 1)) (nI (b + (mt_sz l + mt_sz r + 1)) + Int32.ofInt (-1)) t = mf_Model_link_b109 N R (mf_Model_link_l32 N R (g + mt_sz l + mt_sz r)) (nI (b + mt_sz l + mt_sz r)) (nI (b + mt_sz l - 1)) (nI (b + mt_sz l + mt_sz r - 1)) t := by
        rw [show g + (mt_sz l + mt_sz r + 1) = g + mt_sz l + mt_sz r + 1 by omega, show b + (mt_sz l + mt_sz r + 1) = b + mt_sz l + mt_sz r + 1 by omega, hm1, me_Model_link_l32, mf_Model_link_l32B, if_neg (mi_lt0 _ (by omega)), if_pos hin, if_pos hin, if_pos hin, mi_tn (by omega), p1, if_neg (show ¬ nI k = (7 : Int32) from mi_neT (b := 7) (by omega) (by omega) (by omega)), if_pos hin, p3 (by omega) (by omega), p5 (by omega)]
        rcases hk with rfl | rfl
        · rw [if_pos (show nI 5 = (5 : Int32) from rfl)]
        · rw [if_neg (show ¬ nI 6 = (5 : Int32) by decide), if_pos hin, if_pos (show nI 6 = (6 : Int32) from rfl)]
      rw [h109, mf_Model_link_b109, if_pos hin, if_pos hinr, if_pos hin, if_pos hinr, if_pos hin, mi_tn (by omega), mi_tn (by omega), p1, h56, h57]
      have hRr1 : mt_RM 0 (mw_wi (mw_wi t 56 (b + mt_sz l + mt_sz r - 1) h) 57 (b + mt_sz l + mt_sz r - 1) f) (b + mt_sz l) r := RMw (Or.inr rfl) (RMw (Or.inl rfl) hRr)
      rcases hk with rfl | rfl
      · rw [if_pos (show nI 5 = (5 : Int32) from rfl), fl _ hRr1, mi_b, mf_Model_link_b162, if_pos hinl, if_pos hin, mi_tn (by omega), mi_tn (by omega)]
        rw [show (mw_wi (mw_wi t 56 (b + mt_sz l + mt_sz r - 1) h) 57 (b + mt_sz l + mt_sz r - 1) f).1 51 (b + mt_sz l + mt_sz r) = nI 5 from p1, if_neg (show ¬ nI 5 = (6 : Int32) by decide), if_pos hin]
        rw [show (mw_wi (mw_wi t 56 (b + mt_sz l + mt_sz r - 1) h) 57 (b + mt_sz l + mt_sz r - 1) f).1 57 (b + mt_sz l + mt_sz r) = f from by rw [mi_wi, if_pos rfl, if_neg (by omega), mi_wi, if_neg (by decide), h57], mf_Model_link_b193, if_pos hinl, mi_tn (by omega), mf_Model_link_b194]
        refine ⟨_, rfl, ⟨rfl, fun q i g1 g2 => ?_, fun i hi => ⟨?_, ?_⟩⟩, ?_, ?_, ?_, ?_⟩
        · rw [mi_wi, if_neg g2, mi_wi, if_neg g1, mi_wi, if_neg g2, mi_wi, if_neg g1]
        · rw [mi_wi, if_neg (by decide), mi_wi, if_pos rfl, if_neg (by omega), mi_wi, if_neg (by decide), mi_wi, if_pos rfl, if_neg (by omega)]
        · rw [mi_wi, if_pos rfl, if_neg (by omega), mi_wi, if_neg (by decide), mi_wi, if_pos rfl, if_neg (by omega), mi_wi, if_neg (by decide)]
        · rw [mi_wi, if_neg (by decide), mi_wi, if_pos rfl, if_neg (by omega), mi_wi, if_neg (by decide), mi_wi, if_pos rfl, if_pos rfl]
        · rw [mi_wi, if_pos rfl, if_neg (by omega), mi_wi, if_neg (by decide), mi_wi, if_pos rfl, if_pos rfl]
        · rw [mi_wi, if_neg (by decide), mi_wi, if_pos rfl, if_pos rfl, if_pos rfl]
        · rw [mi_wi, if_pos rfl, if_pos rfl, if_neg (by decide)]
      · rw [if_neg (show ¬ nI 6 = (5 : Int32) by decide), if_pos hin, mf_Model_link_b162, if_pos hinl, if_pos hin, mi_tn (by omega), mi_tn (by omega)]
        rw [show (mw_wi t 56 (b + mt_sz l + mt_sz r - 1) h).1 56 (b + mt_sz l + mt_sz r) = h from by rw [mi_wi, if_pos rfl, if_neg (by omega), h56]]
        rw [show (mw_wi (mw_wi t 56 (b + mt_sz l + mt_sz r - 1) h) 57 (b + mt_sz l + mt_sz r - 1) f).1 51 (b + mt_sz l + mt_sz r) = nI 6 from p1, if_pos (show nI 6 = (6 : Int32) from rfl), fl _ (RMw (Or.inl rfl) hRr1), mi_b, mf_Model_link_b193, if_pos hinl, mi_tn (by omega), mf_Model_link_b194]
        refine ⟨_, rfl, ⟨rfl, fun q i g1 g2 => ?_, fun i hi => ⟨?_, ?_⟩⟩, ?_, ?_, ?_, ?_⟩
        · rw [mi_wi, if_neg g2, mi_wi, if_neg g1, mi_wi, if_neg g2, mi_wi, if_neg g1]
        · rw [mi_wi, if_neg (by decide), mi_wi, if_pos rfl, if_neg (by omega), mi_wi, if_neg (by decide), mi_wi, if_pos rfl, if_neg (by omega)]
        · rw [mi_wi, if_pos rfl, if_neg (by omega), mi_wi, if_neg (by decide), mi_wi, if_pos rfl, if_neg (by omega), mi_wi, if_neg (by decide)]
        · rw [mi_wi, if_neg (by decide), mi_wi, if_pos rfl, if_neg (by omega), mi_wi, if_neg (by decide), mi_wi, if_pos rfl, if_pos rfl]
        · rw [mi_wi, if_pos rfl, if_neg (by omega), mi_wi, if_neg (by decide), mi_wi, if_pos rfl, if_pos rfl]
        · rw [mi_wi, if_neg (by decide), mi_wi, if_pos rfl, if_pos rfl, if_neg (by decide)]
        · rw [mi_wi, if_pos rfl, if_pos rfl, if_pos rfl]
    obtain ⟨T, e1, e2, e3, e4, e5, e6⟩ := set
    obtain ⟨U, f1, f2, f3⟩ := ih2 (b + mt_sz l) (g + mt_sz l) h f T (mt_RM_lq e2 hRr) (by omega) e3 e4
    have e5' : U.1 56 (b + mt_sz l - 1) = _ := ((f2.2.2 _ (by omega)).1).trans e5
    have e6' : U.1 57 (b + mt_sz l - 1) = _ := ((f2.2.2 _ (by omega)).2).trans e6
    have e2U : mi_lq b (b + mt_sz l + mt_sz r) t U := mi_lq_tr e2 f2 (by omega) (by omega)
    obtain ⟨V, g1, g2, g3⟩ := ih1 b g _ _ U (mt_RM_lq e2U hRl) (by omega) e5' e6'
    have e2V : mi_lq b (b + mt_sz l + mt_sz r) t V := mi_lq_tr e2U g2 (by omega) (by omega)
    refine ⟨V, by rw [e1, f1, g1], e2V, ?_⟩
    have hLr : mt_LB 0 V (b + mt_sz l) r h f := by
      -- the right part's labels lie above the left part
      exact mt_LB_hi (e := b + mt_sz l) (fun i hi => g2.2.2 i (by omega)) _ _ _ _ (Nat.le_refl _) f3
    rw [mt_LB_nd]
    refine ⟨((e2V.2.2 _ (by omega)).1).trans h56, ((e2V.2.2 _ (by omega)).2).trans h57, fun h5 => ?_, fun h6 => ?_, fun h7 => by omega⟩
    · subst h5
      rw [if_pos rfl, if_neg (by decide)] at g3
      exact ⟨g3, hLr⟩
    · subst h6
      rw [if_neg (by decide), if_pos rfl] at g3
      exact ⟨g3, hLr⟩
  · intro a n m l hl ih b g h f t hR hb h56 h57
    rw [mt_sz_nd, mt_sz_0] at hb h56 h57 ⊢
    simp only [Nat.add_zero] at hb h56 h57 ⊢
    rw [show b + (mt_sz l + 1) - 1 = b + mt_sz l by omega] at h56 h57 ⊢
    rw [mt_RM_nd, mt_nM] at hR
    simp only [mt_sz_0, Nat.add_zero] at hR
    obtain ⟨⟨p1, p2, p3, p4, p5, p6, p7, p8⟩, hRl, -⟩ := hR
    have hpos := mt_C_pos hl
    have hin : mj_in (nI (b + mt_sz l)) 170 = true := mi_inT (by omega) (by omega)
    have hinl : mj_in (nI (b + mt_sz l - 1)) 170 = true := mi_inT (by omega) (by omega)
    rw [show g + (mt_sz l + 1) = g + mt_sz l + 1 by omega, show b + (mt_sz l + 1) = b + mt_sz l + 1 by omega, hm1, me_Model_link_l32, mf_Model_link_l32B, if_neg (mi_lt0 _ (by omega)), if_pos hin, if_pos hin, if_pos hin, mi_tn (by omega), p1, if_pos (show nI 7 = (7 : Int32) from rfl), if_pos hin, p3 (by omega) (by omega), if_pos hinl, if_pos hin, if_pos hinl, mi_tn (by omega), h57]
    rw [show (mw_wi t 56 (b + mt_sz l - 1) f).1 56 (b + mt_sz l) = h from by rw [mi_wi, if_pos rfl, if_neg (by omega), h56], mf_Model_link_b194]
    have hq : mi_lq b (b + mt_sz l) t (mw_wi (mw_wi t 56 (b + mt_sz l - 1) f) 57 (b + mt_sz l - 1) h) := by
      refine ⟨rfl, fun q i g1 g2 => ?_, fun i hi => ⟨?_, ?_⟩⟩
      · rw [mi_wi, if_neg g2, mi_wi, if_neg g1]
      · rw [mi_wi, if_neg (by decide), mi_wi, if_pos rfl, if_neg (by omega)]
      · rw [mi_wi, if_pos rfl, if_neg (by omega), mi_wi, if_neg (by decide)]
    obtain ⟨T, e1, e2, e3⟩ := ih b g f h _ (mt_RM_lq hq hRl) (by omega) (by rw [mi_wi, if_neg (by decide), mi_wi, if_pos rfl, if_pos rfl]) (by rw [mi_wi, if_pos rfl, if_pos rfl])
    have hT := mi_lq_tr hq e2 (Nat.le_refl _) (by omega)
    refine ⟨T, e1, hT, ?_⟩
    rw [mt_LB_nd]
    simp only [mt_sz_0, Nat.add_zero]
    exact ⟨((hT.2.2 _ (by omega)).1).trans h56, ((hT.2.2 _ (by omega)).2).trans h57, fun h5 => absurd h5 (by decide), fun h6 => absurd h6 (by decide), fun _ => e3⟩
  · intro a n m l r ha hb' hl hr b g h f t hR hb h56 h57
    rw [mt_sz_nd] at hb h56 h57 ⊢
    rw [show b + (mt_sz l + mt_sz r + 1) - 1 = b + mt_sz l + mt_sz r by omega] at h56 h57 ⊢
    rw [mt_RM_nd, mt_nM] at hR
    have := passby (b + mt_sz l + mt_sz r) (g + mt_sz l + mt_sz r) 8 t (by omega) (by omega) (by omega) hR.1.1
    refine ⟨t, ?_, ⟨rfl, fun _ _ _ _ => rfl, fun _ _ => ⟨rfl, rfl⟩⟩, ?_⟩
    · rw [show g + (mt_sz l + mt_sz r + 1) = g + mt_sz l + mt_sz r + 1 by omega, show b + (mt_sz l + mt_sz r + 1) = b + mt_sz l + mt_sz r + 1 by omega, this, mt_lk_val r hr (b + mt_sz l) (g + mt_sz l) t hR.2.2 (by omega), mt_lk_val l hl b g t hR.2.1 (by omega)]
    · rw [mt_LB_nd]
      exact ⟨h56, h57, fun h5 => absurd h5 (by decide), fun h6 => absurd h6 (by decide), fun h7 => absurd h7 (by decide)⟩
  · intro a n m ha hb' b g h f t hR hb h56 h57
    rw [mt_sz_nd, mt_sz_0] at hb h56 h57 ⊢
    rw [show b + (0 + 0 + 1) - 1 = b by omega] at h56 h57 ⊢
    rw [mt_RM_nd, mt_nM] at hR
    refine ⟨t, passby b g 9 t (by omega) (by omega) (by omega) hR.1.1, ⟨rfl, fun _ _ _ _ => rfl, fun _ _ => ⟨rfl, rfl⟩⟩, ?_⟩
    rw [mt_LB_nd]
    exact ⟨h56, h57, fun h5 => absurd h5 (by decide), fun h6 => absurd h6 (by decide), fun h7 => absurd h7 (by decide)⟩
  · intro k a n m hk ha hm hc b g h f t hR hb h56 h57
    rw [mt_sz_nd, mt_sz_0] at hb h56 h57 ⊢
    rw [show b + (0 + 0 + 1) - 1 = b by omega] at h56 h57 ⊢
    rw [mt_RM_nd, mt_nM] at hR
    refine ⟨t, passby b g k t (by omega) (by omega) (by omega) hR.1.1, ⟨rfl, fun _ _ _ _ => rfl, fun _ _ => ⟨rfl, rfl⟩⟩, ?_⟩
    rw [mt_LB_nd]
    exact ⟨h56, h57, fun h5 => by omega, fun h6 => by omega, fun h7 => by omega⟩
/-- link -/
theorem mt_link (hN : 340 ≤ N) {X : mt_T} (hX : mt_C X) {t : mw_T} (hR : mt_RM 0 t 0 X) (hb : mt_sz X ≤ 170) (h9 : t.1 49 9 = nI (mt_sz X)) : ∃ T, mf_Model_link N R t = some (.inl (), T) ∧ mi_lq 0 170 t T ∧ mt_LB 0 T 0 X (-1) (-2) := by
  have hpos := mt_C_pos hX
  have hin : mj_in (nI (mt_sz X - 1)) 170 = true := mi_inT (by omega) (by omega)
  have hm : nI (mt_sz X) + Int32.ofInt (-1) = nI (mt_sz X - 1) := by
    obtain ⟨n, hn⟩ : ∃ n, mt_sz X = n + 1 := ⟨mt_sz X - 1, by omega⟩
    rw [hn, show Int32.ofInt (-1) = -1 from rfl, ← mi_add, Int32.add_assoc, show nI 1 + (-1 : Int32) = 0 by decide, Int32.add_zero]; rfl
  rw [mf_Model_link, h9, show nI (mt_sz X) - (1 : Int32) = nI (mt_sz X - 1) from mi_sub (b := 1) hpos, if_pos hin, if_pos hin, mi_tn (by omega)]
  have hq : mi_lq 0 170 t (mw_wi (mw_wi t 56 (mt_sz X - 1) (-1)) 57 (mt_sz X - 1) (-2)) := by
    refine ⟨rfl, fun q i g1 g2 => ?_, fun i hi => ⟨?_, ?_⟩⟩
    · rw [mi_wi, if_neg g2, mi_wi, if_neg g1]
    · rw [mi_wi, if_neg (by decide), mi_wi, if_pos rfl, if_neg (by omega)]
    · rw [mi_wi, if_pos rfl, if_neg (by omega), mi_wi, if_neg (by decide)]
  obtain ⟨g, hg⟩ : ∃ g, N = g + 1 + mt_sz X := ⟨N - (1 + mt_sz X), by omega⟩
  obtain ⟨T, e1, e2, e3⟩ := mt_lk (N := N) (R := R) (by omega) X hX 0 (g + 1) (-1) (-2) _ (mt_RM_lq hq hR) (by omega) (by rw [Nat.zero_add, mi_wi, if_neg (by decide), mi_wi, if_pos rfl, if_pos rfl]) (by rw [Nat.zero_add, mi_wi, if_pos rfl, if_pos rfl])
  rw [Nat.zero_add, hm, ← hg] at e1
  refine ⟨T, ?_, mi_lq_tr hq e2 (Nat.le_refl _) (by omega), e3⟩
  rw [e1, me_Model_link_l32, mf_Model_link_l32B, if_pos (by decide)]
end
