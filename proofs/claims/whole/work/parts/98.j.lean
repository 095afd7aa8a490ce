/-! THE WALK over leaves; the law's call of holds -/
/-- the first leaf -/
def mt_fl : Nat → mt_T → Nat
  | b, .tag k (.tag _ (.tag _ (.tag _ (.append l r)))) => if k = 5 ∨ k = 6 ∨ k = 7 then mt_fl b l else b + mt_sz l + mt_sz r
  | b, _ => b
theorem mt_fl_nd (b k a n m : Nat) (l r : mt_T) : mt_fl b (mt_nd k a n m l r) = if k = 5 ∨ k = 6 ∨ k = 7 then mt_fl b l else b + mt_sz l + mt_sz r := by rw [mt_nd, mt_fl]
/-- the labels: where to go when it holds and when it fails (rows 56 + d, 57 + d) -/
def mt_LB (d : Nat) (t : mw_T) : Nat → mt_T → Int32 → Int32 → Prop
  | b, .tag k (.tag _ (.tag _ (.tag _ (.append l r)))), h, f => t.1 (56 + d) (b + mt_sz l + mt_sz r) = h ∧ t.1 (57 + d) (b + mt_sz l + mt_sz r) = f ∧
    (k = 5 → mt_LB d t b l (nI (mt_fl (b + mt_sz l) r)) f ∧ mt_LB d t (b + mt_sz l) r h f) ∧ (k = 6 → mt_LB d t b l h (nI (mt_fl (b + mt_sz l) r)) ∧ mt_LB d t (b + mt_sz l) r h f) ∧ (k = 7 → mt_LB d t b l f h)
  | _, _, _, _ => True
theorem mt_LB_nd (d : Nat) (t : mw_T) (b k a n m : Nat) (l r : mt_T) (h f : Int32) : mt_LB d t b (mt_nd k a n m l r) h f = (t.1 (56 + d) (b + mt_sz l + mt_sz r) = h ∧ t.1 (57 + d) (b + mt_sz l + mt_sz r) = f ∧
    (k = 5 → mt_LB d t b l (nI (mt_fl (b + mt_sz l) r)) f ∧ mt_LB d t (b + mt_sz l) r h f) ∧ (k = 6 → mt_LB d t b l h (nI (mt_fl (b + mt_sz l) r)) ∧ mt_LB d t (b + mt_sz l) r h f) ∧ (k = 7 → mt_LB d t b l f h)) := by rw [mt_nd, mt_LB]
theorem mt_LB_eq {d e : Nat} {t T : mw_T} (hq : ∀ i, i < e → T.1 (56 + d) i = t.1 (56 + d) i ∧ T.1 (57 + d) i = t.1 (57 + d) i) : ∀ (X : mt_T) (b : Nat) (h f : Int32), b + mt_sz X ≤ e → mt_LB d t b X h f → mt_LB d T b X h f := by
  intro X
  induction X using mt_sz.induct with
  | case1 k a n m l r ih1 ih2 =>
    intro b h f hb hp
    rw [mt_sz] at hb
    rw [mt_LB] at hp ⊢
    obtain ⟨p1, p2, p3, p4, p5⟩ := hp
    obtain ⟨g1, g2⟩ := hq (b + mt_sz l + mt_sz r) (by omega)
    refine ⟨g1.trans p1, g2.trans p2, fun hk => ⟨ih1 _ _ _ (by omega) (p3 hk).1, ih2 _ _ _ (by omega) (p3 hk).2⟩, fun hk => ⟨ih1 _ _ _ (by omega) (p4 hk).1, ih2 _ _ _ (by omega) (p4 hk).2⟩, fun hk => ih1 _ _ _ (by omega) (p5 hk)⟩
  | case2 X hX =>
    intro b h f _ _
    rw [mt_LB]
    · trivial
    · exact hX
theorem mt_fl_lt {X : mt_T} (hX : mt_C X) : ∀ b, mt_fl b X < b + mt_sz X := by
  refine mt_Cind (P := fun X => ∀ b, mt_fl b X < b + mt_sz X) ?_ ?_ ?_ ?_ ?_ X hX
  · intro k a n m l r hk hl hr ih1 ih2 b
    rw [mt_fl_nd, mt_sz_nd, if_pos (by omega)]
    have := ih1 b; omega
  · intro a n m l hl ih b
    rw [mt_fl_nd, mt_sz_nd, if_pos (by omega)]
    have := ih b; omega
  · intros; rw [mt_fl_nd, mt_sz_nd, if_neg (by omega)]; omega
  · intros; rw [mt_fl_nd, mt_sz_nd, if_neg (by omega)]; omega
  · intros; rw [mt_fl_nd, mt_sz_nd, if_neg (by omega)]; omega
section
variable {N R : Nat} {pk : Nat → Nat} {n : Nat}
theorem mq_walk (hN : 180 ≤ N) : ∀ (X : mt_T), mt_C X → ∀ (b g F : Nat) (h f : Int32) (t : mw_T), mi_PktW pk n t → t.1 49 53 = 0 → mt_RM 12 t b X → mt_LB 12 t b X h f → b + mt_sz X ≤ 160 → 1 ≤ g → mt_sz X + g ≤ F →
    match mt_cS pk n X with
    | none => ∃ T, mf_Model_holds_l49 N R F (nI (mt_fl b X)) t = some (.inl (-1), T) ∧ T.1 49 0 = t.1 49 0
    | some bb => ∃ T g', g ≤ g' ∧ mf_Model_holds_l49 N R F (nI (mt_fl b X)) t = mf_Model_holds_l49 N R g' (if bb then h else f) T ∧ T.1 49 53 = 0 ∧ mi_fr [] 0 [(49, 53), (71, 1000)] t T := by
  have notin : ∀ q i, q ≠ 49 → q ≠ 71 → ¬ mw_ws [] 0 [(49, 53), (71, 1000)] q i := by
    intro q i h1 h2
    rintro (⟨x, hx, _⟩ | ⟨x, hx, e1, _⟩)
    · cases hx
    · simp only [List.mem_cons, List.not_mem_nil, or_false] at hx
      rcases hx with rfl | rfl
      · exact h1 e1
      · exact h2 e1
  have keep : ∀ {t T : mw_T}, mi_fr [] 0 [(49, 53), (71, 1000)] t T → (mi_PktW pk n t → mi_PktW pk n T) ∧ mt_eqM 12 170 t T ∧ (∀ i, i < 170 → T.1 (56 + 12) i = t.1 (56 + 12) i ∧ T.1 (57 + 12) i = t.1 (57 + 12) i) := by
    intro t T hF
    refine ⟨fun h => mi_PktW_ag (mi_ag_of (o := 0) (Or.inl rfl) (by decide) hF) h, fun i _ => ⟨⟨?_, ?_, ?_, ?_, ?_⟩, ?_⟩, fun i _ => ⟨?_, ?_⟩⟩
    · exact (hF _ _ (notin _ _ (by omega) (by omega))).1
    · exact (hF _ _ (notin _ _ (by omega) (by omega))).1
    · exact (hF _ _ (notin _ _ (by omega) (by omega))).1
    · exact (hF _ _ (notin _ _ (by omega) (by omega))).1
    · exact (hF _ _ (notin _ _ (by omega) (by omega))).1
    · exact (hF _ _ (notin _ _ (by omega) (by omega))).2
    · exact (hF _ _ (notin _ _ (by omega) (by omega))).1
    · exact (hF _ _ (notin _ _ (by omega) (by omega))).1
  have n490 : ∀ {t T : mw_T}, mi_fr [] 0 [(49, 53), (71, 1000)] t T → T.1 49 0 = t.1 49 0 := by
    intro t T hF
    refine (hF 49 0 ?_).1
    rintro (⟨x, hx, _⟩ | ⟨x, hx, e1, e2⟩)
    · cases hx
    · simp only [List.mem_cons, List.not_mem_nil, or_false] at hx
      rcases hx with rfl | rfl
      · simp at e2
      · simp at e1
  -- a leaf
  have leaf : ∀ (k a m c : Nat) (l r : mt_T), 8 ≤ k → mt_C (mt_nd k a m c l r) → ∀ (b g F : Nat) (h f : Int32) (t : mw_T), mi_PktW pk n t → t.1 49 53 = 0 → mt_RM 12 t b (mt_nd k a m c l r) → mt_LB 12 t b (mt_nd k a m c l r) h f → b + mt_sz (mt_nd k a m c l r) ≤ 160 → 1 ≤ g → mt_sz (mt_nd k a m c l r) + g ≤ F →
    match mt_cS pk n (mt_nd k a m c l r) with
    | none => ∃ T, mf_Model_holds_l49 N R F (nI (mt_fl b (mt_nd k a m c l r))) t = some (.inl (-1), T) ∧ T.1 49 0 = t.1 49 0
    | some bb => ∃ T g', g ≤ g' ∧ mf_Model_holds_l49 N R F (nI (mt_fl b (mt_nd k a m c l r))) t = mf_Model_holds_l49 N R g' (if bb then h else f) T ∧ T.1 49 53 = 0 ∧ mi_fr [] 0 [(49, 53), (71, 1000)] t T := by
    intro k a m c l r hk hC b g F h f t hp h0 hR hL hb hg hF
    rw [mt_sz_nd] at hb hF
    rw [mt_LB_nd] at hL
    have hin : mj_in (nI (b + mt_sz l + mt_sz r)) 170 = true := mi_inT (by omega) (by omega)
    obtain ⟨v, T, e1, e2, e3, e4, e5⟩ := mq_isLeaf (N := N) (R := R) hN hp h0 b k a m c l r hk hC hR (by omega)
    obtain ⟨k1, k2, k3⟩ := keep e3
    have hh : T.1 68 (b + mt_sz l + mt_sz r) = h := (k3 _ (by omega)).1.trans hL.1
    have hf : T.1 69 (b + mt_sz l + mt_sz r) = f := (k3 _ (by omega)).2.trans hL.2.1
    obtain ⟨F', rfl⟩ : ∃ F', F = F' + 1 := ⟨F - 1, by omega⟩
    rw [mt_fl_nd, if_neg (by omega), me_Model_holds_l49, mf_Model_holds_l49B, if_neg (mi_lt0 _ (by omega)), if_pos h0, e1, mi_b]
    cases hc : mt_cS pk n (mt_nd k a m c l r) with
    | none =>
      have e4' := e4 hc
      have fin : ∀ x : Int32, mf_Model_holds_l49 N R F' x T = some (.inl (-1), T) := by
        intro x
        obtain ⟨F2, rfl⟩ : ∃ F2, F' = F2 + 1 := ⟨F' - 1, by omega⟩
        have hb : mf_Model_holds_b87 N R x T = some (.inl (-1), T) := by rw [mf_Model_holds_b87, if_neg (by rw [e4']; decide)]
        rw [me_Model_holds_l49, mf_Model_holds_l49B, hb, if_neg (show ¬ T.1 49 53 = 0 from by rw [e4']; decide)]
        split <;> rfl
      refine ⟨T, ?_, n490 e3⟩
      rw [if_pos hin, if_pos hin, mf_Model_holds_b83, mf_Model_holds_b83, fin, fin]
      split <;> rfl
    | some bb =>
      obtain ⟨e5', e6⟩ := e5 bb hc
      refine ⟨T, F', by omega, ?_, e5', e3⟩
      rw [if_pos hin, if_pos hin, mf_Model_holds_b83, mf_Model_holds_b83, mi_tn (by omega), hh, hf, e6]
      cases bb <;> rfl
  intro X hX
  refine mt_Cind (P := fun X => ∀ (b g F : Nat) (h f : Int32) (t : mw_T), mi_PktW pk n t → t.1 49 53 = 0 → mt_RM 12 t b X → mt_LB 12 t b X h f → b + mt_sz X ≤ 160 → 1 ≤ g → mt_sz X + g ≤ F →
    match mt_cS pk n X with
    | none => ∃ T, mf_Model_holds_l49 N R F (nI (mt_fl b X)) t = some (.inl (-1), T) ∧ T.1 49 0 = t.1 49 0
    | some bb => ∃ T g', g ≤ g' ∧ mf_Model_holds_l49 N R F (nI (mt_fl b X)) t = mf_Model_holds_l49 N R g' (if bb then h else f) T ∧ T.1 49 53 = 0 ∧ mi_fr [] 0 [(49, 53), (71, 1000)] t T) ?_ ?_ ?_ ?_ ?_ X hX
  · intro k a m c l r hk hl hr ih1 ih2 b g F h f t hp h0 hR hL hb hg hF
    rw [mt_sz_nd] at hb hF
    rw [mt_LB_nd] at hL
    rw [mt_RM_nd] at hR
    obtain ⟨-, hRl, hRr⟩ := hR
    obtain ⟨-, -, h5, h6, -⟩ := hL
    rw [mt_fl_nd, if_pos (by omega), mt_cS_nd]
    rcases hk with rfl | rfl
    · obtain ⟨hL1, hL2⟩ := h5 rfl
      have IH := ih1 b (mt_sz r + g) F _ _ t hp h0 hRl hL1 (by omega) (by omega) (by omega)
      rw [if_pos rfl]
      cases hcl : mt_cS pk n l with
      | none => rw [hcl] at IH; exact IH
      | some bb =>
        rw [hcl] at IH
        obtain ⟨T, g', q1, q2, q3, q4⟩ := IH
        obtain ⟨k1, k2, k3⟩ := keep q4
        cases bb with
        | false => exact ⟨T, g', by omega, q2, q3, q4⟩
        | true =>
          have IH2 := ih2 (b + mt_sz l) g g' h f T (k1 hp) q3 (mt_RM_eq k2 _ _ (by omega) hRr) (mt_LB_eq k3 _ _ _ _ (by omega) hL2) (by omega) hg (by omega)
          rw [mq_th_tt, q2, if_pos rfl]
          cases hcr : mt_cS pk n r with
          | none =>
            rw [hcr] at IH2
            obtain ⟨T2, r1, r2⟩ := IH2
            exact ⟨T2, r1, r2.trans (n490 q4)⟩
          | some bb2 =>
            rw [hcr] at IH2
            obtain ⟨T2, g2, r1, r2, r3, r4⟩ := IH2
            exact ⟨T2, g2, r1, r2, r3, mi_fr_tr q4 r4 (fun _ _ w => w) (fun _ _ w => w)⟩
    · obtain ⟨hL1, hL2⟩ := h6 rfl
      have IH := ih1 b (mt_sz r + g) F _ _ t hp h0 hRl hL1 (by omega) (by omega) (by omega)
      rw [if_neg (by decide), if_pos rfl]
      cases hcl : mt_cS pk n l with
      | none => rw [hcl] at IH; exact IH
      | some bb =>
        rw [hcl] at IH
        obtain ⟨T, g', q1, q2, q3, q4⟩ := IH
        obtain ⟨k1, k2, k3⟩ := keep q4
        cases bb with
        | true => exact ⟨T, g', by omega, q2, q3, q4⟩
        | false =>
          have IH2 := ih2 (b + mt_sz l) g g' h f T (k1 hp) q3 (mt_RM_eq k2 _ _ (by omega) hRr) (mt_LB_eq k3 _ _ _ _ (by omega) hL2) (by omega) hg (by omega)
          simp only
          rw [q2, if_neg (by decide)]
          cases hcr : mt_cS pk n r with
          | none =>
            rw [hcr] at IH2
            obtain ⟨T2, r1, r2⟩ := IH2
            exact ⟨T2, r1, r2.trans (n490 q4)⟩
          | some bb2 =>
            rw [hcr] at IH2
            obtain ⟨T2, g2, r1, r2, r3, r4⟩ := IH2
            exact ⟨T2, g2, r1, r2, r3, mi_fr_tr q4 r4 (fun _ _ w => w) (fun _ _ w => w)⟩
  · intro a m c l hl ih b g F h f t hp h0 hR hL hb hg hF
    rw [mt_sz_nd, mt_sz_0] at hb hF
    rw [mt_LB_nd] at hL
    rw [mt_RM_nd] at hR
    obtain ⟨-, hRl, hRr⟩ := hR
    obtain ⟨-, -, -, -, h7⟩ := hL
    rw [mt_fl_nd, if_pos (by omega), mt_cS_nd, if_neg (by decide), if_neg (by decide), if_pos rfl]
    have IH := ih b g F _ _ t hp h0 hRl (h7 rfl) (by omega) hg (by omega)
    cases hcl : mt_cS pk n l with
    | none => rw [hcl] at IH; exact IH
    | some bb =>
      rw [hcl] at IH
      obtain ⟨T, g', q1, q2, q3, q4⟩ := IH
      refine ⟨T, g', q1, ?_, q3, q4⟩
      rw [q2]
      cases bb <;> rfl
  · intro a m c l r ha hb' hl hr
    exact leaf 8 a m c l r (by omega) (by rw [mt_C_nd]; exact Or.inr (Or.inr (Or.inl ⟨rfl, ha, hb', hl, hr⟩)))
  · intro a m c ha hb'
    exact leaf 9 a m c mt_0 mt_0 (by omega) (by rw [mt_C_nd]; exact Or.inr (Or.inr (Or.inr (Or.inl ⟨rfl, ha, hb', rfl, rfl⟩))))
  · intro k a m c hk ha hm hc
    exact leaf k a m c mt_0 mt_0 (by omega) (by rw [mt_C_nd]; exact Or.inr (Or.inr (Or.inr (Or.inr ⟨hk, ha, hm, hc, rfl, rfl⟩))))
/-- down to the first leaf -/
theorem mq_down : ∀ (X : mt_T), mt_C X → ∀ (b F : Nat) (t : mw_T), mt_RM 12 t b X → b + mt_sz X ≤ 160 → mt_sz X ≤ F → mf_Model_holds_l28 N R F (nI (b + mt_sz X - 1)) t = mf_Model_holds_l49 N R N (nI (mt_fl b X)) t := by
  have leaf : ∀ (k a m c : Nat) (l r : mt_T), 8 ≤ k → k < 100 → ∀ (b F : Nat) (t : mw_T), mt_RM 12 t b (mt_nd k a m c l r) → b + mt_sz (mt_nd k a m c l r) ≤ 160 → mt_sz (mt_nd k a m c l r) ≤ F → mf_Model_holds_l28 N R F (nI (b + mt_sz (mt_nd k a m c l r) - 1)) t = mf_Model_holds_l49 N R N (nI (mt_fl b (mt_nd k a m c l r))) t := by
    intro k a m c l r hk hk2 b F t hR hb hF
    rw [mt_sz_nd] at hb hF ⊢
    rw [mt_RM_nd, mt_nM] at hR
    obtain ⟨⟨p1, -⟩, -, -⟩ := hR
    have hin : mj_in (nI (b + mt_sz l + mt_sz r)) 170 = true := mi_inT (by omega) (by omega)
    obtain ⟨F', rfl⟩ : ∃ F', F = F' + 1 := ⟨F - 1, by omega⟩
    rw [mt_fl_nd, if_neg (by omega), show b + (mt_sz l + mt_sz r + 1) - 1 = b + mt_sz l + mt_sz r by omega, me_Model_holds_l28, mf_Model_holds_l28B, if_pos hin, mi_tn (by omega), p1, if_neg (show ¬ nI k < (8 : Int32) from mi_ltF (b := 8) (by omega) (by omega))]
  have inner : ∀ (k a m c : Nat) (l r : mt_T), (k = 5 ∨ k = 6 ∨ k = 7) → mt_C l → (∀ (b F : Nat) (t : mw_T), mt_RM 12 t b l → b + mt_sz l ≤ 160 → mt_sz l ≤ F → mf_Model_holds_l28 N R F (nI (b + mt_sz l - 1)) t = mf_Model_holds_l49 N R N (nI (mt_fl b l)) t) → ∀ (b F : Nat) (t : mw_T), mt_RM 12 t b (mt_nd k a m c l r) → b + mt_sz (mt_nd k a m c l r) ≤ 160 → mt_sz (mt_nd k a m c l r) ≤ F → mf_Model_holds_l28 N R F (nI (b + mt_sz (mt_nd k a m c l r) - 1)) t = mf_Model_holds_l49 N R N (nI (mt_fl b (mt_nd k a m c l r))) t := by
    intro k a m c l r hk hl ih b F t hR hb hF
    rw [mt_sz_nd] at hb hF ⊢
    rw [mt_RM_nd, mt_nM] at hR
    obtain ⟨⟨p1, p2, p3, -⟩, hRl, -⟩ := hR
    have hpos := mt_C_pos hl
    have hin : mj_in (nI (b + mt_sz l + mt_sz r)) 170 = true := mi_inT (by omega) (by omega)
    obtain ⟨F', rfl⟩ : ∃ F', F = F' + 1 := ⟨F - 1, by omega⟩
    rw [mt_fl_nd, if_pos hk, show b + (mt_sz l + mt_sz r + 1) - 1 = b + mt_sz l + mt_sz r by omega, me_Model_holds_l28, mf_Model_holds_l28B, if_pos hin, mi_tn (by omega), p1, if_pos (show nI k < (8 : Int32) from mi_ltT (b := 8) (by omega) (by omega)), if_pos hin, p3 (by omega) (by omega)]
    exact ih b F' t hRl (by omega) (by omega)
  intro X hX
  refine mt_Cind (P := fun X => ∀ (b F : Nat) (t : mw_T), mt_RM 12 t b X → b + mt_sz X ≤ 160 → mt_sz X ≤ F → mf_Model_holds_l28 N R F (nI (b + mt_sz X - 1)) t = mf_Model_holds_l49 N R N (nI (mt_fl b X)) t) ?_ ?_ ?_ ?_ ?_ X hX
  · intro k a m c l r hk hl hr ih1 ih2
    exact inner k a m c l r (by omega) hl ih1
  · intro a m c l hl ih
    exact inner 7 a m c l mt_0 (by omega) hl ih
  · intro a m c l r ha hb' hl hr
    exact leaf 8 a m c l r (by omega) (by omega)
  · intro a m c ha hb'
    exact leaf 9 a m c mt_0 mt_0 (by omega) (by omega)
  · intro k a m c hk ha hm hc
    exact leaf k a m c mt_0 mt_0 (by omega) (by omega)
end
/-- the filter's tree, in both programs: the class may leave out two nots in a row -/
def mi_Tre (o : Nat) (t : mw_T) : Prop := ∃ X Y : mt_T, mt_C X ∧ mt_C Y ∧ mt_sz X ≤ 160 ∧ mt_sz Y ≤ 160 ∧ (∀ pk n, mt_cS pk n X = mt_cS pk n Y) ∧ t.1 (8 + o) 7 = nI (mt_sz X) ∧ mt_RC o t 0 X ∧ t.1 49 25 = nI (mt_sz Y - 1) ∧ mt_RM 12 t 0 Y ∧ mt_LB 12 t 0 Y (-1) (-2)
theorem ml_holds (N R o : Nat) (ho : o = 0 ∨ o = 21) (hN : 400 ≤ N) (hRR : 160 ≤ R) {P : mi_P} {t : mw_T} (hk : mi_Pkt t) (hp : mi_Prg P o t) (ht : P ≠ [] → mi_Tre o t) : ∃ v t1 b t2, mf_Law_holds N R o t = some (.inl v, t1) ∧ mf_Model_holds N R t1 = some (.inl b, t2) ∧ mf_Model_thrown N R t2 = some (.inl v, t2) ∧ (v = 0 → t2.2.1 85 0 = b.toInt64) := by
  obtain ⟨n, hk⟩ := hk
  obtain ⟨pk, hk⟩ := mi_PktW_of hk
  obtain ⟨h1, h2, h3, h4, h5⟩ := hp
  have hl := h1.1
  by_cases hE : P = []
  · subst hE
    refine ⟨1, mw_we t, 0, mw_wi (mw_wi (mw_we t) 49 0 0) 49 0 1, ?_, ?_, rfl, fun h => absurd h (by decide)⟩
    · rw [mf_Law_holds, mf_Sieve_holds, mf_Program_size, mi_b, if_pos (by rw [h2.1]; rfl), mi_tx]; rfl
    · rw [mf_Model_holds, if_pos (show (mw_we t).1 49 25 < 0 from by rw [show (mw_we t).1 49 25 = -1 from h4 rfl]; decide), mf_Model_refuse, mi_b]
  · obtain ⟨X, Y, hX, hY, sX, sY, hXY, q1, q2, q3, q4, q5⟩ := ht hE
    have hpos : 0 < P.length := List.length_pos_iff.mpr hE
    have pX := mt_C_pos hX
    have pY := mt_C_pos hY
    obtain ⟨T, hT⟩ := mq_verdict (N := N) (R := R) (pk := pk) (n := n) (by omega) o ho X hX 0 R t hk q2 (by omega) (by omega)
    have hj : mf_Judge_judge N R o t = some (.inl (mv (mt_cS pk n X)), T) := by
      rw [mf_Judge_judge, mf_Tree_size, mi_b, q1, show nI (mt_sz X) - (1 : Int32) = nI (mt_sz X - 1) from mi_sub (b := 1) pX, mf_Judge_verdict, show mt_sz X - 1 = 0 + mt_sz X - 1 by omega, hT, mi_b]
    have hsh : mf_Sieve_holds N R o t = some (.inl (mv (mt_cS pk n X)), T) := by
      rw [mf_Sieve_holds, mf_Program_size, mi_b, if_neg, hj, mi_b]
      rw [h2.1, show (150 : Int32) = nI 150 from rfl, mi_sub (by omega)]
      exact mi_neT (b := 0) (by omega) (by omega) (by omega)
    have hlh : mf_Law_holds N R o t = some (.inl 0, mw_wl T 85 0 (mv (mt_cS pk n X)).toInt64) := by rw [mf_Law_holds, hsh, mi_t]; rfl
    have fr2 := (mi_frt (mg_Sieve_holds N R o t) (h := fun q t1 => (if q = 1 then (some (.inl (1 : Int32), t1)) else none)) (fun q T z T' e => by
        split at e
        · cases e; rfl
        · cases e) (by rw [← hlh]; rfl)).1
    have ag1 : ∀ {S : List (Nat × Nat)}, mi_dj S [(27, 1000)] [(85, 1000)] = true → mi_ag S t (mw_wl T 85 0 (mv (mt_cS pk n X)).toInt64) := fun hd => mi_ag_of ho hd fr2
    generalize hT' : mw_wl T 85 0 (mv (mt_cS pk n X)).toInt64 = t1 at *
    have hpk1 : mi_PktW pk n t1 := mi_PktW_ag (ag1 (by decide)) hk
    have rows : ∀ q, 49 ≤ q → q ≠ 85 → ∀ i, t1.1 q i = t.1 q i ∧ t1.2.1 q i = t.2.1 q i := by
      intro q g1 g2 i
      refine fr2 q i ?_
      rintro (⟨x, hx, e1, _⟩ | ⟨x, hx, e1, _⟩)
      · simp only [List.mem_cons, List.not_mem_nil, or_false] at hx
        subst hx
        simp only at e1
        omega
      · simp only [List.mem_cons, List.not_mem_nil, or_false] at hx
        subst hx
        exact g2 e1
    have qR : mt_RM 12 (mw_wi (mw_wi t1 49 0 0) 49 53 0) 0 Y := by
      refine mt_RM_eq (e := 160) (fun i _ => ⟨⟨?_, ?_, ?_, ?_, ?_⟩, ?_⟩) _ _ (by omega) q4
      · exact (rows 63 (by omega) (by omega) i).1
      · exact (rows 64 (by omega) (by omega) i).1
      · exact (rows 65 (by omega) (by omega) i).1
      · exact (rows 66 (by omega) (by omega) i).1
      · exact (rows 67 (by omega) (by omega) i).1
      · exact (rows 70 (by omega) (by omega) i).2
    have qL : mt_LB 12 (mw_wi (mw_wi t1 49 0 0) 49 53 0) 0 Y (-1) (-2) := mt_LB_eq (e := 160) (fun i _ => ⟨(rows 68 (by omega) (by omega) i).1, (rows 69 (by omega) (by omega) i).1⟩) _ _ _ _ (by omega) q5
    have hW := mq_walk (N := N) (R := R) (pk := pk) (n := n) (by omega) Y hY 0 2 N (-1) (-2) (mw_wi (mw_wi t1 49 0 0) 49 53 0) hpk1 rfl qR qL (by omega) (by omega) (by omega)
    have hD := mq_down (N := N) (R := R) Y hY 0 N (mw_wi (mw_wi t1 49 0 0) 49 53 0) qR (by omega) (by omega)
    have hM : ∃ T2, mf_Model_holds N R t1 = some (.inl (mv (mt_cS pk n Y)), T2) ∧ T2.1 49 0 = 0 := by
      rw [mf_Model_holds, (rows 49 (by omega) (by omega) 25).1, q3, if_neg (mi_lt0 _ (by omega)), show mt_sz Y - 1 = 0 + mt_sz Y - 1 by omega, hD]
      cases hc : mt_cS pk n Y with
      | none =>
        rw [hc] at hW
        obtain ⟨T2, e, e'⟩ := hW
        exact ⟨T2, e, e'⟩
      | some bb =>
        rw [hc] at hW
        obtain ⟨T2, g', e1, e2, e3, e4⟩ := hW
        obtain ⟨g2, rfl⟩ : ∃ g2, g' = g2 + 1 := ⟨g' - 1, by omega⟩
        have e490 : T2.1 49 0 = 0 := (e4 49 0 (by
          rintro (⟨x, hx, _⟩ | ⟨x, hx, e1, e2⟩)
          · cases hx
          · simp only [List.mem_cons, List.not_mem_nil, or_false] at hx
            rcases hx with rfl | rfl
            · simp at e2
            · simp at e1)).1
        refine ⟨T2, ?_, e490⟩
        rw [e2, me_Model_holds_l49]
        cases bb with
        | true =>
          show mf_Model_holds_l49B N R _ (-1) T2 = _
          rw [mf_Model_holds_l49B, if_pos (by decide), mf_Model_holds_b87, if_pos e3, if_pos rfl]; rfl
        | false =>
          show mf_Model_holds_l49B N R _ (-2) T2 = _
          rw [mf_Model_holds_l49B, if_pos (by decide), mf_Model_holds_b87, if_pos e3, if_neg (by decide)]; rfl
    obtain ⟨T2, hM, h49⟩ := hM
    refine ⟨0, t1, mv (mt_cS pk n Y), T2, hlh, hM, by rw [mf_Model_thrown, h49], fun _ => ?_⟩
    have ag2 := mi_agF (o := 0) (S := [(85, 1000)]) (Or.inl rfl) (mg_Model_holds N R t1) hM (by decide)
    rw [mi_agL ag2 (by simp) 0 (Or.inl rfl), ← hT', mi_wl, if_pos rfl, if_pos rfl, hXY]
