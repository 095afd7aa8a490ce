/-! CODE of values, by the class -/
theorem mi_co_app1 {o : Nat} {t : mw_T} {s : Nat} {A B : mi_P} {X Y : mw_X Unit} (h : mi_co o t s (A ++ B) X) (e : Y = X) : mi_co o t s (A ++ B) Y := e ▸ h
section
variable {N R o : Nat}
theorem mt_isNum {t : mw_T} {b : Nat} {X : mt_T} (hX : mt_V X) (hR : mt_RC o t b X) (hb : b + mt_sz X ≤ 160) : mf_Tree_isNumber N R o (nI (b + mt_sz X - 1)) t = some (.inl (mj_b2 (mt_isN X)), t) ∧ (mt_isN X = true → t.2.1 (14 + o) (b + mt_sz X - 1) = nL (mt_num X)) := by
  have hpos := mt_V_pos hX
  have hin : mj_in (nI (b + mt_sz X - 1)) 160 = true := mi_inT (by omega) (by omega)
  rw [mf_Tree_isNumber, if_pos hin, mi_tn (by omega)]
  refine mt_Vind (P := fun X => mt_RC o t b X → ((if t.1 (9 + o) (b + mt_sz X - 1) = 0 then (some (.inl (1 : Int32), t)) else (some (.inl (0 : Int32), t)) : mw_X Int32) = some (.inl (mj_b2 (mt_isN X)), t)) ∧ (mt_isN X = true → t.2.1 (14 + o) (b + mt_sz X - 1) = nL (mt_num X))) ?_ ?_ ?_ ?_ X hX hR
  all_goals intros
  · rename_i a n m hn hR
    rw [mt_RC_nd, mt_nC] at hR
    rw [mt_sz_nd, mt_isN_nd, mt_num_nd]
    simp only [mt_sz_0, Nat.add_zero] at hR
    obtain ⟨⟨p1, p2, p3, p4, p5, p6, p7⟩, -, -⟩ := hR
    rw [show b + (mt_sz mt_0 + mt_sz mt_0 + 1) - 1 = b from by rw [mt_sz_0]; omega, p1, if_pos (show nI (mt_ck 1) = (0 : Int32) from rfl)]
    exact ⟨rfl, fun _ => p6 (by simp)⟩
  · rename_i a n m hR
    rw [mt_RC_nd, mt_nC] at hR
    rw [mt_sz_nd, mt_isN_nd, mt_num_nd]
    simp only [mt_sz_0, Nat.add_zero] at hR
    obtain ⟨⟨p1, -⟩, -, -⟩ := hR
    rw [show b + (mt_sz mt_0 + mt_sz mt_0 + 1) - 1 = b from by rw [mt_sz_0]; omega, p1, if_neg (show ¬ nI (mt_ck 2) = (0 : Int32) by decide)]
    exact ⟨rfl, fun h => by cases h⟩
  · rename_i a n m l ha hn hl ih hR
    rw [mt_RC_nd, mt_nC] at hR
    rw [mt_sz_nd, mt_isN_nd, mt_num_nd]
    simp only [mt_sz_0, Nat.add_zero] at hR
    obtain ⟨⟨p1, -⟩, -, -⟩ := hR
    rw [show b + (mt_sz l + mt_sz mt_0 + 1) - 1 = b + mt_sz l from by rw [mt_sz_0]; omega, p1, if_neg (show ¬ nI (mt_ck 3) = (0 : Int32) by decide)]
    exact ⟨rfl, fun h => by cases h⟩
  · rename_i a n m l r ha hl hr ih1 ih2 hR
    rw [mt_RC_nd, mt_nC] at hR
    rw [mt_sz_nd, mt_isN_nd, mt_num_nd]
    obtain ⟨⟨p1, -⟩, -, -⟩ := hR
    rw [show b + (mt_sz l + mt_sz r + 1) - 1 = b + mt_sz l + mt_sz r by omega, p1, if_neg (show ¬ nI (mt_ck 4) = (0 : Int32) by decide)]
    exact ⟨rfl, fun h => by cases h⟩
theorem mt_num_lt {X : mt_T} (hX : mt_V X) (h : mt_isN X = true) : mt_num X < 4294967296 := by
  refine mt_Vind (P := fun X => mt_isN X = true → mt_num X < 4294967296) ?_ ?_ ?_ ?_ X hX h
  · intro a n m hn _; rw [mt_num_nd]; exact hn
  · intro a n m h; rw [mt_isN_nd] at h; cases h
  · intro a n m l _ _ _ _ h; rw [mt_isN_nd] at h; cases h
  · intro a n m l r _ _ _ _ _ h; rw [mt_isN_nd] at h; cases h
theorem mt_half {n : Nat} (h : n = 1 ∨ n = 2 ∨ n = 4) (k : Nat) (hk : k = 2 ∨ k = 5) : nI k + nI n / (2 : Int32) = nI (k + n / 2) := by
  rcases h with rfl | rfl | rfl <;> rcases hk with rfl | rfl <;> decide
theorem mt_gV_class (hN : 200 ≤ N) : ∀ (X : mt_T), mt_V X → ∀ (b c s f ctr g : Nat) (t : mw_T), mt_RC o t b X → b + mt_sz X ≤ 160 → t.1 (16 + o) 4 = nI s → s ≤ 150 → mt_sz X ≤ f + 1 → ctr + mt_sz X ≤ 160 → mt_sz X ≤ g → c + mt_sz X ≤ 1000 →
    mi_co o t s (mt_gV X c) (mf_Coder_value_l5 N R (mf_Coder_valueR N R o f) o g (nI c) (nI (b + mt_sz X - 1)) (nI ctr) t) := by
  -- a call of value
  have call : ∀ (X : mt_T), mt_V X → (∀ (b c s f ctr g : Nat) (t : mw_T), mt_RC o t b X → b + mt_sz X ≤ 160 → t.1 (16 + o) 4 = nI s → s ≤ 150 → mt_sz X ≤ f + 1 → ctr + mt_sz X ≤ 160 → mt_sz X ≤ g → c + mt_sz X ≤ 1000 → mi_co o t s (mt_gV X c) (mf_Coder_value_l5 N R (mf_Coder_valueR N R o f) o g (nI c) (nI (b + mt_sz X - 1)) (nI ctr) t)) →
      ∀ (b c s f : Nat) (t : mw_T), mt_RC o t b X → b + mt_sz X ≤ 160 → t.1 (16 + o) 4 = nI s → s ≤ 150 → mt_sz X ≤ f → c + mt_sz X ≤ 1000 → mi_co o t s (mt_gV X c) (mf_Coder_valueR N R o f (nI (b + mt_sz X - 1)) (nI c) t) := by
    intro X hX ih b c s f t hR hb hs hl hf hc
    have hpos := mt_V_pos hX
    obtain ⟨f', rfl⟩ : ∃ f', f = f' + 1 := ⟨f - 1, by omega⟩
    rw [me_Coder_valueR, mf_Coder_valueB]
    exact ih b c s f' 0 N t hR hb hs hl (by omega) (by omega) (by omega) hc
  -- a turn that goes out of the loop
  have out : ∀ (b : Nat) (X : mt_T) (c ctr g f : Nat) (t : mw_T), 1 ≤ g → ctr + 1 ≤ 160 → mf_Coder_isPairWithNumber N R o (nI (b + mt_sz X - 1)) t = some (.inl 0, t) → mf_Coder_value_l5 N R (mf_Coder_valueR N R o f) o g (nI c) (nI (b + mt_sz X - 1)) (nI ctr) t = mf_Coder_value_b73 N R (mf_Coder_valueR N R o f) o (nI c) (nI (b + mt_sz X - 1)) t := by
    intro b X c ctr g f t hg hctr h
    obtain ⟨g', rfl⟩ : ∃ g', g = g' + 1 := ⟨g - 1, by omega⟩
    rw [me_Coder_value_l5, mf_Coder_value_l5B, if_pos (show nI ctr < (160 : Int32) from mi_ltT (b := 160) (by omega) (by omega)), h, mi_b, if_pos rfl]
  have two : ∀ (l r : mt_T), mt_V l → mt_V r → (∀ (b c s f : Nat) (t : mw_T), mt_RC o t b l → b + mt_sz l ≤ 160 → t.1 (16 + o) 4 = nI s → s ≤ 150 → mt_sz l ≤ f → c + mt_sz l ≤ 1000 → mi_co o t s (mt_gV l c) (mf_Coder_valueR N R o f (nI (b + mt_sz l - 1)) (nI c) t)) → (∀ (b c s f : Nat) (t : mw_T), mt_RC o t b r → b + mt_sz r ≤ 160 → t.1 (16 + o) 4 = nI s → s ≤ 150 → mt_sz r ≤ f → c + mt_sz r ≤ 1000 → mi_co o t s (mt_gV r c) (mf_Coder_valueR N R o f (nI (b + mt_sz r - 1)) (nI c) t)) →
      ∀ (b c s f : Nat) (t : mw_T), mt_RC o t b l → mt_RC o t (b + mt_sz l) r → b + mt_sz l + mt_sz r ≤ 160 → t.1 (16 + o) 4 = nI s → s ≤ 150 → mt_sz l ≤ f → mt_sz r ≤ f → c + mt_sz l + mt_sz r ≤ 1000 → mi_co o t s (mt_gV r c ++ ([(11, 0, 0, nL c)] ++ (mt_gV l (c + 1) ++ [(10, 0, 0, nL c)]))) (mf_Coder_twoValues N R (mf_Coder_valueR N R o f) o (nI (b + mt_sz l - 1)) (nI (b + mt_sz l + mt_sz r - 1)) (nI c) t) := by
    intro l r hl hr il ir b c s f t hRl hRr hb hs hsl hfl hfr hc
    have hp1 := mt_V_pos hl
    have hp2 := mt_V_pos hr
    rw [mf_Coder_twoValues]
    rw [show mt_gV r c ++ ([(11, 0, 0, nL c)] ++ (mt_gV l (c + 1) ++ [(10, 0, 0, nL c)])) = ((mt_gV r c ++ [(11, 0, 0, nL c)]) ++ mt_gV l (c + 1)) ++ [(10, 0, 0, nL c)] by simp only [List.append_assoc]]
    refine mi_co_b (mi_co_cell N R o hs hsl 10 c (by omega) (by omega)) (fun T1 h1 hs1 he1 => ?_)
    rw [show (1 : Int32) = nI 1 from rfl, mi_add]
    refine mi_co_b (il b (c + 1) _ f T1 (mt_RC_eq he1 _ _ hRl) (by omega) hs1 (by omega) hfl (by omega)) (fun T2 h2 hs2 he2 => ?_)
    refine mi_co_b (mi_co_cell N R o hs2 (by omega) 11 c (by omega) (by omega)) (fun T3 h3 hs3 he3 => ?_)
    rw [mi_bid]
    exact ir (b + mt_sz l) c _ f T3 (mt_RC_eq (mt_eqC_tr he1 (mt_eqC_tr he2 he3)) _ _ hRr) (by omega) hs3 (by omega) hfr (by omega)
  intro X hX
  refine mt_Vind (P := fun X => ∀ (b c s f ctr g : Nat) (t : mw_T), mt_RC o t b X → b + mt_sz X ≤ 160 → t.1 (16 + o) 4 = nI s → s ≤ 150 → mt_sz X ≤ f + 1 → ctr + mt_sz X ≤ 160 → mt_sz X ≤ g → c + mt_sz X ≤ 1000 →
    mi_co o t s (mt_gV X c) (mf_Coder_value_l5 N R (mf_Coder_valueR N R o f) o g (nI c) (nI (b + mt_sz X - 1)) (nI ctr) t)) ?_ ?_ ?_ ?_ X hX
  · intro a n m hn b c s f ctr g t hR hb hs hl hf hctr hg hc
    have hR' := hR
    rw [mt_RC_nd, mt_nC] at hR'
    simp only [mt_sz_0, Nat.add_zero] at hR'
    obtain ⟨⟨p1, p2, p3, p4, p5, p6, p7⟩, -, -⟩ := hR'
    have hz : mt_sz (mt_nd 1 a n m mt_0 mt_0) = 1 := by rw [mt_sz_nd]; rfl
    have hin : mj_in (nI b) 160 = true := mi_inT (by omega) (by omega)
    rw [out b _ c ctr g f t (by omega) (by omega) (by
      rw [hz, show b + 1 - 1 = b by omega, mf_Coder_isPairWithNumber, if_pos hin, mi_tn (by omega), p1, if_neg (show ¬ nI (mt_ck 1) = (3 : Int32) by decide)]), hz, show b + 1 - 1 = b by omega, mf_Coder_value_b73, if_pos hin, mi_tn (by omega), p1, if_pos (show nI (mt_ck 1) = (0 : Int32) from rfl), if_pos hin, p6 (by simp), mi_bid, mt_gV_nd, if_pos rfl]
    exact mi_co_pre N R o hs hl 0 (nL n) (by omega)
  · intro a n m b c s f ctr g t hR hb hs hl hf hctr hg hc
    have hR' := hR
    rw [mt_RC_nd, mt_nC] at hR'
    simp only [mt_sz_0, Nat.add_zero] at hR'
    obtain ⟨⟨p1, p2, p3, p4, p5, p6, p7⟩, -, -⟩ := hR'
    have hz : mt_sz (mt_nd 2 a n m mt_0 mt_0) = 1 := by rw [mt_sz_nd]; rfl
    have hin : mj_in (nI b) 160 = true := mi_inT (by omega) (by omega)
    rw [out b _ c ctr g f t (by omega) (by omega) (by
      rw [hz, show b + 1 - 1 = b by omega, mf_Coder_isPairWithNumber, if_pos hin, mi_tn (by omega), p1, if_neg (show ¬ nI (mt_ck 2) = (3 : Int32) by decide)]), hz, show b + 1 - 1 = b by omega, mf_Coder_value_b73, if_pos hin, mi_tn (by omega), p1, if_neg (show ¬ nI (mt_ck 2) = (0 : Int32) by decide), if_pos (show nI (mt_ck 2) = (1 : Int32) from rfl), mi_bid, mt_gV_nd, if_neg (by decide), if_pos rfl]
    exact mi_co_pre N R o hs hl 1 (nL 0) (by omega)
  · intro a n m l ha hn hl ih b c s f ctr g t hR hb hs hsl hf hctr hg hc
    have hR' := hR
    rw [mt_RC_nd, mt_nC] at hR'
    simp only [mt_sz_0, Nat.add_zero] at hR'
    obtain ⟨⟨p1, p2, p3, p4, p5, p6, p7⟩, hRl, -⟩ := hR'
    have hz : mt_sz (mt_nd 3 a n m l mt_0) = mt_sz l + 1 := by rw [mt_sz_nd]; rfl
    rw [hz] at hb hf hctr hg hc
    have hpos := mt_V_pos hl
    have hin : mj_in (nI (b + mt_sz l)) 160 = true := mi_inT (by omega) (by omega)
    have hinl : mj_in (nI (b + mt_sz l - 1)) 160 = true := mi_inT (by omega) (by omega)
    rw [out b _ c ctr g f t (by omega) (by omega) (by
      rw [hz, show b + (mt_sz l + 1) - 1 = b + mt_sz l by omega, mf_Coder_isPairWithNumber, if_pos hin, mi_tn (by omega), p1, if_neg (show ¬ nI (mt_ck 3) = (3 : Int32) by decide)]), hz, show b + (mt_sz l + 1) - 1 = b + mt_sz l by omega, mf_Coder_value_b73, if_pos hin, mi_tn (by omega), p1, if_neg (show ¬ nI (mt_ck 3) = (0 : Int32) by decide), if_neg (show ¬ nI (mt_ck 3) = (1 : Int32) by decide), if_pos (show nI (mt_ck 3) = (2 : Int32) from rfl), mi_bid, mt_gV_nd, if_neg (by decide), if_neg (by decide), if_pos rfl]
    obtain ⟨n1, n2⟩ := mt_isNum (N := N) (R := R) hl hRl (by omega)
    have key : mi_co o t s (if mt_isN l = true ∧ a ≤ 1 then [(2 + n / 2, 0, 0, nL ((mq_b0 a + mt_num l) % 4294967296))] else mt_gV l c ++ ((if 2 ≤ a then [(11, 0, 0, nL c), (8, 0, 0, nL 14), (9, 0, 0, nL c), (30, 0, 0, nL 0)] else []) ++ [(12, 0, 0, nL 0), (5 + n / 2, 0, 0, nL (mq_b0 a))])) (mf_Coder_access_b43 N R (mf_Coder_valueR N R o f) o (nI c) (nI (mq_cp a)) (nI (b + mt_sz l - 1)) (nI n) (nI (mq_b0 a)) t) := by
      have hb0 : mq_b0 a ≤ 14 := by unfold mq_b0; split <;> omega
      have b91 : mi_co o t s (mt_gV l c ++ ((if 2 ≤ a then [(11, 0, 0, nL c), (8, 0, 0, nL 14), (9, 0, 0, nL c), (30, 0, 0, nL 0)] else []) ++ [(12, 0, 0, nL 0), (5 + n / 2, 0, 0, nL (mq_b0 a))])) (mf_Coder_access_b91 N R (mf_Coder_valueR N R o f) o (nI c) (nI (mq_cp a)) (nI (b + mt_sz l - 1)) (nI n) (nI (mq_b0 a)) t) := by
        have b155 : ∀ (T : mw_T) (s' : Nat), mt_eqC o t T → T.1 (16 + o) 4 = nI s' → s' ≤ 150 → mi_co o T s' (mt_gV l c) (mf_Coder_access_b155 N R (mf_Coder_valueR N R o f) o (nI c) (nI (b + mt_sz l - 1)) T) := by
          intro T s' he hs' hl'
          rw [mf_Coder_access_b155, mi_bid]
          exact call l hl ih b c s' f T (mt_RC_eq he _ _ hRl) (by omega) hs' hl' (by omega) (by omega)
        have b119 : ∀ (T : mw_T) (s' : Nat), mt_eqC o t T → T.1 (16 + o) 4 = nI s' → s' ≤ 150 → mi_co o T s' (mt_gV l c ++ [(11, 0, 0, nL c), (8, 0, 0, nL 14), (9, 0, 0, nL c), (30, 0, 0, nL 0)]) (mf_Coder_access_b119 N R (mf_Coder_valueR N R o f) o (nI c) (nI (b + mt_sz l - 1)) T) := by
          intro T s' he hs' hl'
          rw [mf_Coder_access_b119]
          rw [show mt_gV l c ++ [(11, 0, 0, nL c), (8, 0, 0, nL 14), (9, 0, 0, nL c), (30, 0, 0, nL 0)] = (((mt_gV l c ++ [(11, 0, 0, nL c)]) ++ [(8, 0, 0, nL 14)]) ++ [(9, 0, 0, nL c)]) ++ [(30, 0, 0, nL 0)] by simp only [List.append_assoc, List.cons_append, List.nil_append]]
          refine mi_co_b (mi_co_pre N R o hs' hl' 30 (nL 0) (by omega)) (fun T1 h1 hs1 he1 => ?_)
          refine mi_co_b (mi_co_cell N R o hs1 (by omega) 9 c (by omega) (by omega)) (fun T2 h2 hs2 he2 => ?_)
          refine mi_co_b (mi_co_pre N R o hs2 (by omega) 8 (nL 14) (by omega)) (fun T3 h3 hs3 he3 => ?_)
          refine mi_co_b (mi_co_cell N R o hs3 (by omega) 11 c (by omega) (by omega)) (fun T4 h4 hs4 he4 => ?_)
          exact b155 T4 _ (mt_eqC_tr he (mt_eqC_tr he1 (mt_eqC_tr he2 (mt_eqC_tr he3 he4)))) hs4 (by omega)
        rw [mf_Coder_access_b91]
        rw [show mt_gV l c ++ ((if 2 ≤ a then [(11, 0, 0, nL c), (8, 0, 0, nL 14), (9, 0, 0, nL c), (30, 0, 0, nL 0)] else []) ++ [(12, 0, 0, nL 0), (5 + n / 2, 0, 0, nL (mq_b0 a))]) = ((mt_gV l c ++ (if 2 ≤ a then [(11, 0, 0, nL c), (8, 0, 0, nL 14), (9, 0, 0, nL c), (30, 0, 0, nL 0)] else [])) ++ [(12, 0, 0, nL 0)]) ++ [(5 + n / 2, 0, 0, nL (mq_b0 a))] by simp only [List.append_assoc, List.cons_append, List.nil_append]]
        refine mi_co_b ?_ (fun T1 h1 hs1 he1 => ?_)
        · rw [mf_Coder_fieldAtX, mi_bid, show (5 : Int32) = nI 5 from rfl, mt_half hn 5 (by omega), mi_IL (by omega)]
          exact mi_co_pre N R o hs hsl (5 + n / 2) _ (by omega)
        refine mi_co_b (mi_co_pre N R o hs1 (by omega) 12 (nL 0) (by omega)) (fun T2 h2 hs2 he2 => ?_)
        have : a = 0 ∨ a = 1 ∨ a = 2 ∨ a = 3 := by omega
        rcases this with rfl | rfl | rfl | rfl
        · rw [if_neg (by decide), if_neg (by decide), if_neg (by decide), List.append_nil]
          exact b155 T2 _ (mt_eqC_tr he1 he2) hs2 (by omega)
        · rw [if_neg (by decide), if_neg (by decide), if_neg (by decide), List.append_nil]
          exact b155 T2 _ (mt_eqC_tr he1 he2) hs2 (by omega)
        · rw [if_pos (show nI (mq_cp 2) = (2 : Int32) from rfl), if_pos (by decide)]
          exact b119 T2 _ (mt_eqC_tr he1 he2) hs2 (by omega)
        · rw [if_neg (show ¬ nI (mq_cp 3) = (2 : Int32) by decide), if_pos (show nI (mq_cp 3) = (4 : Int32) from rfl), if_pos (by decide)]
          exact b119 T2 _ (mt_eqC_tr he1 he2) hs2 (by omega)
      have b66 : mt_isN l = true → mi_co o t s [(2 + n / 2, 0, 0, nL ((mq_b0 a + mt_num l) % 4294967296))] (mf_Coder_access_b66 N R (mf_Coder_valueR N R o f) o (nI (b + mt_sz l - 1)) (nI n) (nI (mq_b0 a)) t) := by
        intro hi
        rw [mf_Coder_access_b66, if_pos hinl, mi_tn (by omega), n2 hi, mi_bid, mf_Coder_field, mi_bid, show (2 : Int32) + (nI n / (2 : Int32)) = nI (2 + n / 2) from mt_half hn 2 (by omega), mi_IL (by omega), mi_addL, mi_maskL]
        exact mi_co_pre N R o hs hsl (2 + n / 2) _ (by omega)
      rw [mf_Coder_access_b43, n1, mi_b]
      cases hi : mt_isN l with
      | false =>
        rw [if_pos (show mj_b2 false = 0 from rfl), if_neg (by simp)]
        exact b91
      | true =>
        rw [if_neg (show ¬ mj_b2 true = 0 by decide)]
        have : a = 0 ∨ a = 1 ∨ a = 2 ∨ a = 3 := by omega
        rcases this with rfl | rfl | rfl | rfl
        · rw [if_pos (show nI (mq_cp 0) = (0 : Int32) from rfl), if_pos (by simp)]
          exact b66 hi
        · rw [if_neg (show ¬ nI (mq_cp 1) = (0 : Int32) by decide), if_pos (show nI (mq_cp 1) = (1 : Int32) from rfl), if_pos (by simp)]
          exact b66 hi
        · rw [if_neg (show ¬ nI (mq_cp 2) = (0 : Int32) by decide), if_neg (show ¬ nI (mq_cp 2) = (1 : Int32) by decide), if_neg (by simp)]
          exact b91
        · rw [if_neg (show ¬ nI (mq_cp 3) = (0 : Int32) by decide), if_neg (show ¬ nI (mq_cp 3) = (1 : Int32) by decide), if_neg (by simp)]
          exact b91
    rw [mf_Coder_access, if_pos hin, if_pos hin, if_pos hin, mi_tn (by omega), p2, p3 (by omega) (by omega), p6 (by simp), mi_LI, show mt_cs 3 a = mq_cp a from rfl]
    have : a = 0 ∨ a = 1 ∨ a = 2 ∨ a = 3 := by omega
    rcases this with rfl | rfl | rfl | rfl
    · rw [if_pos (show nI (mq_cp 0) = (0 : Int32) from rfl)]; exact key
    · rw [if_neg (show ¬ nI (mq_cp 1) = (0 : Int32) by decide)]; exact key
    · rw [if_neg (show ¬ nI (mq_cp 2) = (0 : Int32) by decide)]; exact key
    · rw [if_neg (show ¬ nI (mq_cp 3) = (0 : Int32) by decide)]; exact key
  · intro a n m l r ha hl hr ih1 ih2 b c s f ctr g t hR hb hs hsl hf hctr hg hc
    have hR' := hR
    rw [mt_RC_nd, mt_nC] at hR'
    obtain ⟨⟨p1, p2, p3, p4, p5, p6, p7⟩, hRl, hRr⟩ := hR'
    have hz : mt_sz (mt_nd 4 a n m l r) = mt_sz l + mt_sz r + 1 := mt_sz_nd _ _ _ _ _ _
    rw [hz] at hb hf hctr hg hc
    have hpos := mt_V_pos hl
    have hpos2 := mt_V_pos hr
    have hin : mj_in (nI (b + mt_sz l + mt_sz r)) 160 = true := mi_inT (by omega) (by omega)
    have hinr : mj_in (nI (b + mt_sz l + mt_sz r - 1)) 160 = true := mi_inT (by omega) (by omega)
    obtain ⟨n1, n2⟩ := mt_isNum (N := N) (R := R) hr hRr (by omega)
    have hpair : mf_Coder_isPairWithNumber N R o (nI (b + mt_sz l + mt_sz r)) t = some (.inl (mj_b2 (mt_isN r)), t) := by
      rw [mf_Coder_isPairWithNumber, if_pos hin, mi_tn (by omega), p1, if_pos (show nI (mt_ck 4) = (3 : Int32) from rfl), if_pos hin, p4 (by omega), n1, mi_b]
      cases mt_isN r <;> rfl
    rw [mt_gV_nd, if_neg (by decide), if_neg (by decide), if_neg (by decide), hz, show b + (mt_sz l + mt_sz r + 1) - 1 = b + mt_sz l + mt_sz r by omega]
    cases hi : mt_isN r with
    | true =>
      rw [hi] at hpair
      obtain ⟨g', rfl⟩ : ∃ g', g = g' + 1 := ⟨g - 1, by omega⟩
      rw [if_pos rfl, me_Coder_value_l5, mf_Coder_value_l5B, if_pos (show nI ctr < (160 : Int32) from mi_ltT (b := 160) (by omega) (by omega)), hpair, mi_b, if_neg (show ¬ mj_b2 true = 0 by decide), if_pos hin, if_pos hin, mi_tn (by omega), p4 (by omega), if_pos hinr, mi_tn (by omega), p2, n2 hi, show (20 : Int32) + nI (mt_cs 4 a) = nI (20 + a) from mi_add 20 a]
      refine mi_co_b (mi_co_pre N R o hs hsl (20 + a) _ (by omega)) (fun T1 h1 hs1 he1 => ?_)
      rw [if_pos hin, (he1 11 (by omega) (by omega)).1, p3 (by omega) (by omega), mi_l1, mi_add]
      exact ih1 b c _ f (ctr + 1) g' T1 (mt_RC_eq he1 _ _ hRl) (by omega) hs1 (by omega) (by omega) (by omega) (by omega) (by omega)
    | false =>
      rw [hi] at hpair
      have ho := out b (mt_nd 4 a n m l r) c ctr g f t (by omega) (by omega) (by rw [hz, show b + (mt_sz l + mt_sz r + 1) - 1 = b + mt_sz l + mt_sz r by omega]; exact hpair)
      rw [hz, show b + (mt_sz l + mt_sz r + 1) - 1 = b + mt_sz l + mt_sz r by omega] at ho
      rw [ho, if_neg (by decide), mf_Coder_value_b73, if_pos hin, mi_tn (by omega), p1, if_neg (show ¬ nI (mt_ck 4) = (0 : Int32) by decide), if_neg (show ¬ nI (mt_ck 4) = (1 : Int32) by decide), if_neg (show ¬ nI (mt_ck 4) = (2 : Int32) by decide), if_pos hin, p2, show (30 : Int32) + nI (mt_cs 4 a) = nI (30 + a) from mi_add 30 a]
      rw [show mt_gV r c ++ ([(11, 0, 0, nL c)] ++ (mt_gV l (c + 1) ++ ([(10, 0, 0, nL c)] ++ [(30 + a, 0, 0, nL 0)]))) = (mt_gV r c ++ ([(11, 0, 0, nL c)] ++ (mt_gV l (c + 1) ++ [(10, 0, 0, nL c)]))) ++ [(30 + a, 0, 0, nL 0)] by simp only [List.append_assoc]]
      refine mi_co_b (mi_co_pre N R o hs hsl (30 + a) (nL 0) (by omega)) (fun T1 h1 hs1 he1 => ?_)
      rw [if_pos hin, if_pos hin, (he1 11 (by omega) (by omega)).1, (he1 12 (by omega) (by omega)).1, p3 (by omega) (by omega), p4 (by omega), mi_bid]
      exact two l r hl hr (call l hl ih1) (call r hr ih2) b c _ f T1 (mt_RC_eq he1 _ _ hRl) (mt_RC_eq he1 _ _ hRr) (by omega) hs1 (by omega) (by omega) (by omega) (by omega)
end
