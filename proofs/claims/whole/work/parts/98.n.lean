/-! CODE of conditions, by the class -/
section
variable {N R o : Nat}
theorem mt_c_port {t : mw_T} {s : Nat} (hs : t.1 (16 + o) 4 = nI s) (hl : s ≤ 150) (i e n m y f : Nat) (hi : i < 160) (he : e = 1 ∨ e = 2 ∨ e = 3) (h9 : t.1 (9 + o) i = nI (mt_ck 12)) (h10 : t.1 (10 + o) i = nI (mq_ce e)) (h14 : t.2.1 (14 + o) i = nL n) (h15 : t.2.1 (15 + o) i = mq_nm 12 m) (hy : s ≤ y) (hf : s ≤ f) :
    mi_co o t s (mt_rs (mt_gP 1 0 ++ ([(2, 0, 0, nL 23)] ++ ([(40, 1, 0, nL 6)] ++ ([(40, 0, 3, nL 17)] ++ (mt_gW ++ ([(8, 0, 0, nL 14)] ++ mt_gEs 12 6 14 16 e (nL n) (mq_nm 12 m))))))) (y - s) (f - s)) (mf_Coder_port N R o (nI i) (nI y) (nI f) t) := by
  have hE := mt_c_ends (N := N) (R := R) hs hl i 12 e n m 14 16 y f hi (by omega) he (by omega) (by omega) h9 h10 h14 h15 hy hf
  rw [if_pos rfl] at hE
  generalize hg : mt_gEs 12 6 14 16 e (nL n) (mq_nm 12 m) = E at hE ⊢
  rw [mf_Coder_port]
  rw [mt_rs_app (mt_gP 1 0), mt_rs_app [(2, 0, 0, nL 23)], mt_rs_app [(40, 1, 0, nL 6)], mt_rs_app [(40, 0, 3, nL 17)], mt_rs_app mt_gW, mt_rs_app [(8, 0, 0, nL 14)]]
  simp only [← List.append_assoc]
  refine mi_co_b hE (fun T1 g1 hs1 he1 => ?_)
  rw [mt_rs_len] at g1 hs1 ⊢
  rw [mt_rs_pl (mt_pl_one 8 _), mt_rs_pl (mt_pl_one 2 _)]
  refine mi_co_b (mi_co_pre N R o hs1 (by omega) 8 (nL 14) (by omega)) (fun T2 g2 hs2 he2 => ?_)
  simp only [List.length_cons, List.length_nil, Nat.zero_add, List.length_append] at g2 hs2 ⊢
  have hW := mt_c_whole (N := N) (R := R) hs2 (by omega) f (y - s + (1 + E.length)) (by omega)
  rw [show f - (s - E.length - 1) = f - s + (1 + E.length) by omega] at hW
  refine mi_co_b hW (fun T3 g3 hs3 he3 => ?_)
  rw [mt_rs_len] at g3 hs3 ⊢
  rw [show mt_gW.length = 2 from rfl] at g3 hs3 ⊢
  rw [mf_Program_start, mi_b, hs3]
  show mi_co o T3 _ _ (mw_bs (some (.inl (17 : Int32), T3)) _)
  rw [mi_bs]
  have e17 : mt_rs [(40, 0, 3, nL 17)] (y - s + (2 + 1 + E.length)) (f - s + (2 + 1 + E.length)) = [(40, (s - E.length - 1 - 2) - (s - E.length - 1 - 2), f - (s - E.length - 1 - 2), nL 17)] := by
    rw [Nat.sub_self, show f - (s - E.length - 1 - 2) = f - s + (2 + 1 + E.length) by omega]
    simp [mt_rs, mt_jv]
  rw [e17]
  refine mi_co_b (mi_co_tst N R o hs3 (by omega) 40 (nL 17) (by omega) _ f (Nat.le_refl _) (by omega)) (fun T4 g4 hs4 he4 => ?_)
  simp only [List.length_cons, List.length_nil, Nat.zero_add] at g4 hs4 ⊢
  show mi_co o T4 _ _ (mw_bs (some (.inl (6 : Int32), T4)) _)
  rw [mi_bs, mf_Program_start, mi_b, hs4]
  have e6 : mt_rs [(40, 1, 0, nL 6)] (y - s + (1 + 2 + 1 + E.length)) (f - s + (1 + 2 + 1 + E.length)) = [(40, (s - E.length - 1 - 2) - (s - E.length - 1 - 2 - 1), (s - E.length - 1 - 2 - 1) - (s - E.length - 1 - 2 - 1), nL 6)] := by
    rw [Nat.sub_self, show (s - E.length - 1 - 2) - (s - E.length - 1 - 2 - 1) = 1 by omega]
    simp [mt_rs, mt_jv]
  rw [e6]
  refine mi_co_b (mi_co_tst N R o hs4 (by omega) 40 (nL 6) (by omega) _ _ (by omega) (Nat.le_refl _)) (fun T5 g5 hs5 he5 => ?_)
  simp only [List.length_cons, List.length_nil, Nat.zero_add] at g5 hs5 ⊢
  refine mi_co_b (mt_c_field (N := N) (R := R) hs5 (by omega) 23 1 (by omega)) (fun T6 g6 hs6 he6 => ?_)
  simp only [List.length_cons, List.length_nil, Nat.zero_add] at g6 hs6 ⊢
  have hP := mt_c_proto0 (N := N) (R := R) hs6 (by omega) 1 f (y - s + (1 + 1 + 1 + 2 + 1 + E.length)) (by omega) (by omega)
  rw [show f - (s - E.length - 1 - 2 - 1 - 1 - 1) = f - s + (1 + 1 + 1 + 2 + 1 + E.length) by omega] at hP
  exact hP
theorem mt_c_value {X : mt_T} (hX : mt_V X) (hN : 200 ≤ N) (hR' : 160 ≤ R) (b c s : Nat) (t : mw_T) (hR : mt_RC o t b X) (hb : b + mt_sz X ≤ 160) (hs : t.1 (16 + o) 4 = nI s) (hl : s ≤ 150) (hc : c ≤ 10) : mi_co o t s (mt_gV X c) (mf_Coder_value N R o (nI (b + mt_sz X - 1)) (nI c) t) := by
  obtain ⟨f, rfl⟩ : ∃ f, R = f + 1 := ⟨R - 1, by omega⟩
  rw [mf_Coder_value, me_Coder_valueR, mf_Coder_valueB]
  exact mt_gV_class hN X hX b c s f 0 N t hR hb hs hl (by omega) (by omega) (by omega) (by omega)
theorem mt_c_two {l r : mt_T} (hl : mt_V l) (hr : mt_V r) (hN : 200 ≤ N) (hR' : 160 ≤ R) (b c s : Nat) (t : mw_T) (hRl : mt_RC o t b l) (hRr : mt_RC o t (b + mt_sz l) r) (hb : b + mt_sz l + mt_sz r ≤ 160) (hs : t.1 (16 + o) 4 = nI s) (hsl : s ≤ 150) (hc : c ≤ 5) : mi_co o t s (mt_gT l r c) (mf_Coder_twoValues N R (mf_Coder_value N R o) o (nI (b + mt_sz l - 1)) (nI (b + mt_sz l + mt_sz r - 1)) (nI c) t) := by
  rw [mf_Coder_twoValues, mt_gT]
  rw [show mt_gV r c ++ ([(11, 0, 0, nL c)] ++ (mt_gV l (c + 1) ++ [(10, 0, 0, nL c)])) = ((mt_gV r c ++ [(11, 0, 0, nL c)]) ++ mt_gV l (c + 1)) ++ [(10, 0, 0, nL c)] by simp only [List.append_assoc]]
  refine mi_co_b (mi_co_cell N R o hs hsl 10 c (by omega) (by omega)) (fun T1 h1 hs1 he1 => ?_)
  rw [show (1 : Int32) = nI 1 from rfl, mi_add]
  refine mi_co_b (mt_c_value hl hN hR' b (c + 1) _ T1 (mt_RC_eq he1 _ _ hRl) (by omega) hs1 (by omega) (by omega)) (fun T2 h2 hs2 he2 => ?_)
  refine mi_co_b (mi_co_cell N R o hs2 (by omega) 11 c (by omega) (by omega)) (fun T3 h3 hs3 he3 => ?_)
  rw [mi_bid]
  exact mt_c_value hr hN hR' (b + mt_sz l) c _ T3 (mt_RC_eq (mt_eqC_tr he1 (mt_eqC_tr he2 he3)) _ _ hRr) (by omega) hs3 (by omega) (by omega)
theorem mt_c_cmp {l r : mt_T} (hl : mt_V l) (hr : mt_V r) (hN : 200 ≤ N) (hR' : 160 ≤ R) (b s a n m y f : Nat) (t : mw_T) (ha : 8 ≤ a) (hb' : a ≤ 13) (hR : mt_RC o t b (mt_nd 8 a n m l r)) (hb : b + mt_sz l + mt_sz r < 160) (hs : t.1 (16 + o) 4 = nI s) (hsl : s ≤ 150) (hy : s ≤ y) (hf : s ≤ f) :
    mi_co o t s (mt_rs (mt_gC a l r) (y - s) (f - s)) (mf_Coder_comparison N R o (nI (b + mt_sz l + mt_sz r)) (nI (if (a - 8) % 2 = 1 then f else y)) (nI (if (a - 8) % 2 = 1 then y else f)) t) := by
  rw [mt_RC_nd, mt_nC] at hR
  obtain ⟨⟨p1, p2, p3, p4, p5, p6, p7⟩, hRl, hRr⟩ := hR
  have hpos := mt_V_pos hl
  have hpos2 := mt_V_pos hr
  have hin : mj_in (nI (b + mt_sz l + mt_sz r)) 160 = true := mi_inT (by omega) (by omega)
  have hinr : mj_in (nI (b + mt_sz l + mt_sz r - 1)) 160 = true := mi_inT (by omega) (by omega)
  obtain ⟨n1, n2⟩ := mt_isNum (N := N) (R := R) hr hRr (by omega)
  have htest : mf_Coder_testOf N R (nI (mt_rel a)) t = some (.inl (nI (40 + (a - 8) / 2)), t) := by
    have : a = 8 ∨ a = 9 ∨ a = 10 ∨ a = 11 ∨ a = 12 ∨ a = 13 := by omega
    rcases this with rfl | rfl | rfl | rfl | rfl | rfl <;> rfl
  have hj : ∀ w : Int64, ∀ op, mt_rs [(op, if (a - 8) % 2 = 1 then 3 else 2, if (a - 8) % 2 = 1 then 2 else 3, w)] (y - s) (f - s) = [(op, (if (a - 8) % 2 = 1 then f else y) - s, (if (a - 8) % 2 = 1 then y else f) - s, w)] := by
    intro w op
    by_cases hc : (a - 8) % 2 = 1
    · simp [mt_rs, mt_jv, hc]
    · simp [mt_rs, mt_jv, hc]
  rw [mf_Coder_comparison, if_pos hin, if_pos hin, if_pos hin, mi_tn (by omega), p2, p3 (by omega) (by omega), p4 (by omega), show mt_cs 8 a = mt_rel a from rfl, htest, mi_bs, n1, mi_b, mt_gC]
  cases hi : mt_isN r with
  | true =>
    rw [if_neg (show ¬ mj_b2 true = 0 by decide), if_pos hinr, if_pos rfl, mi_tn (by omega), n2 hi, mt_rs_app, mt_rs_pl (mt_gV_pl l hl 0), hj]
    refine mi_co_b (mi_co_tst N R o hs hsl (40 + (a - 8) / 2) _ (by omega) _ _ (by split <;> omega) (by split <;> omega)) (fun T h1 hs1 he1 => ?_)
    rw [mi_bid]
    exact mt_c_value hl hN hR' b 0 _ T (mt_RC_eq he1 _ _ hRl) (by omega) hs1 (by omega) (by omega)
  | false =>
    rw [if_pos (show mj_b2 false = 0 from rfl), if_neg (by decide), mt_rs_app, hj, show nI (40 + (a - 8) / 2) + (10 : Int32) = nI (50 + (a - 8) / 2) from (mi_add (40 + (a - 8) / 2) 10).trans (by congr 1; omega)]
    have hpl : mt_pl (mt_gT l r 0) := mt_pl_app (mt_gV_pl r hr 0) (mt_pl_app (mt_pl_one _ _) (mt_pl_app (mt_gV_pl l hl _) (mt_pl_one _ _)))
    rw [mt_rs_pl hpl]
    refine mi_co_b (mi_co_tst N R o hs hsl (50 + (a - 8) / 2) (nL 0) (by omega) _ _ (by split <;> omega) (by split <;> omega)) (fun T h1 hs1 he1 => ?_)
    rw [mi_bid]
    exact mt_c_two hl hr hN hR' b 0 _ T (mt_RC_eq he1 _ _ hRl) (mt_RC_eq he1 _ _ hRr) (by omega) hs1 (by omega) (by omega)
theorem mt_c_rel {l r : mt_T} (hl : mt_V l) (hr : mt_V r) (hN : 200 ≤ N) (hR' : 160 ≤ R) (b s a n m y f : Nat) (t : mw_T) (ha : 8 ≤ a) (hb' : a ≤ 13) (hR : mt_RC o t b (mt_nd 8 a n m l r)) (hb : b + mt_sz l + mt_sz r < 160) (hs : t.1 (16 + o) 4 = nI s) (hsl : s ≤ 150) (hy : s ≤ y) (hf : s ≤ f) :
    mi_co o t s (mt_rs (mt_gL 8 a n m l r) (y - s) (f - s)) (mf_Coder_relation N R o (nI (b + mt_sz l + mt_sz r)) (nI y) (nI f) t) := by
  have hC := mt_c_cmp hl hr hN hR' b s a n m y f t ha hb' hR hb hs hsl hy hf
  rw [mt_RC_nd, mt_nC] at hR
  obtain ⟨⟨p1, p2, p3, p4, p5, p6, p7⟩, hRl, hRr⟩ := hR
  have hin : mj_in (nI (b + mt_sz l + mt_sz r)) 160 = true := mi_inT (by omega) (by omega)
  have b63 : mi_co o t s (mt_rs (mt_gL 8 a n m l r) (y - s) (f - s)) (mf_Coder_relation_b63 N R o (nI (b + mt_sz l + mt_sz r)) (nI f) (nI (if (a - 8) % 2 = 1 then y else f)) (nI (if (a - 8) % 2 = 1 then f else y)) (nI (b + mt_sz l + mt_sz r)) t) := by
    have hpm := (p5 rfl).2
    unfold mt_pm at hpm
    rw [mf_Coder_relation_b63, mt_gL, if_pos rfl]
    generalize (mt_ac 1 l || mt_ac 1 r) = b1 at hpm ⊢
    generalize (mt_ac 2 l || mt_ac 2 r) = b2 at hpm ⊢
    generalize (mt_ac 3 l || mt_ac 3 r) = b3 at hpm ⊢
    generalize hCC : mt_gC a l r = C at hC ⊢
    have bits : (nL ((if b1 = true then 1 else 0) + (if b2 = true then 2 else 0) + (if b3 = true then 4 else 0)) &&& (1 : Int64) = 0 ↔ b1 = false) ∧ (nL ((if b1 = true then 1 else 0) + (if b2 = true then 2 else 0) + (if b3 = true then 4 else 0)) &&& (2 : Int64) = 0 ↔ b2 = false) ∧ (nL ((if b1 = true then 1 else 0) + (if b2 = true then 2 else 0) + (if b3 = true then 4 else 0)) &&& (4 : Int64) = 0 ↔ b3 = false) := by
      cases b1 <;> cases b2 <;> cases b3 <;> decide
    generalize nL ((if b1 = true then 1 else 0) + (if b2 = true then 2 else 0) + (if b3 = true then 4 else 0)) = x at *
    obtain ⟨k1, k2, k3⟩ := bits
    -- ip
    have b135 : ∀ (T : mw_T) (s' dy : Nat), T.1 (16 + o) 4 = nI s' → s' ≤ s → mi_co o T s' (mt_rs (if b1 = true then mt_gP 1 0 else []) dy (f - s')) (mf_Coder_relation_b135 N R o (nI f) x T) := by
      intro T s' dy hs' hl'
      rw [mf_Coder_relation_b135]
      cases b1 with
      | false => rw [if_pos (show (x &&& (1 : Int64)) = 0 from k1.mpr rfl), if_neg (show ¬ (false = true) by decide)]; exact mi_co_0 hs'
      | true =>
        rw [if_neg (show ¬ (x &&& (1 : Int64)) = 0 from fun hh => by have := k1.mp hh; cases this), if_pos (show true = true from rfl)]
        exact mt_c_proto0 hs' (by omega) 1 f dy (by omega) (by omega)
    have wp : ∀ (p : Nat) (T : mw_T) (s' dy : Nat) (A : mi_P) (g : mw_T → mw_X Unit), p = 2 ∨ p = 3 → T.1 (16 + o) 4 = nI s' → s' ≤ s → (∀ (U : mw_T) (s'' : Nat), U.1 (16 + o) 4 = nI s'' → s'' ≤ s → mi_co o U s'' (mt_rs A (dy + (s' - s'')) (f - s'')) (g U)) → mi_co o T s' (mt_rs (A ++ (mt_gP p 0 ++ mt_gW)) dy (f - s')) (mw_b (mf_Coder_whole N R o (nI f) T) (fun _ t5 => (mw_b (mf_Program_start N R o t5) (fun v6 t6 => (mw_b (mf_Coder_protocol N R o (nI (mq_cp p)) v6 (nI f) t6) (fun _ t7 => g t7)))))) := by
      intro p T s' dy A g hp hs' hl' hg
      rw [mt_rs_app, mt_rs_app, ← List.append_assoc]
      refine mi_co_b (mt_c_whole hs' (by omega) f dy (by omega)) (fun U h1 hs1 he1 => ?_)
      rw [mt_rs_len, show mt_gW.length = 2 from rfl] at h1 hs1 ⊢
      have hP := mt_c_proto (N := N) (R := R) hs1 (by omega) p (s' - 2) f (by omega) (Nat.le_refl _) (by omega)
      rw [Nat.sub_self, mt_gP_0 p (dy + 2), show f - (s' - 2) = f - s' + 2 by omega] at hP
      rw [mf_Program_start, mi_b, hs1]
      refine mi_co_b hP (fun V h2 hs2 he2 => ?_)
      rw [mt_rs_len] at h2 hs2 ⊢
      have := hg V _ hs2 (by omega)
      have hlen : (mt_gP p 0 ++ mt_gW).length = (mt_gP p 0).length + 2 := by rw [List.length_append]; rfl
      rw [hlen, show dy + ((mt_gP p 0).length + 2) = dy + (s' - (s' - 2 - (mt_gP p 0).length)) by omega, show f - s' + ((mt_gP p 0).length + 2) = f - (s' - 2 - (mt_gP p 0).length) by omega]
      exact this
    have b106 : ∀ (T : mw_T) (s' dy : Nat), T.1 (16 + o) 4 = nI s' → s' ≤ s → mi_co o T s' (mt_rs ((if b1 = true then mt_gP 1 0 else []) ++ (if b2 = true then mt_gP 2 0 ++ mt_gW else [])) dy (f - s')) (mf_Coder_relation_b106 N R o (nI f) x T) := by
      intro T s' dy hs' hl'
      rw [mf_Coder_relation_b106]
      cases b2 with
      | false => rw [if_pos (show (x &&& (2 : Int64)) = 0 from k2.mpr rfl), if_neg (show ¬ (false = true) by decide), List.append_nil]; exact b135 T s' dy hs' hl'
      | true =>
        rw [if_neg (show ¬ (x &&& (2 : Int64)) = 0 from fun hh => by have := k2.mp hh; cases this), if_pos (show true = true from rfl)]
        exact wp 2 T s' dy _ _ (by omega) hs' hl' (fun U s'' h1 h2 => b135 U s'' _ h1 h2)
    rw [show (if b1 = true then mt_gP 1 0 else []) ++ ((if b2 = true then mt_gP 2 0 ++ mt_gW else []) ++ ((if b3 = true then mt_gP 3 0 ++ mt_gW else []) ++ C)) = (((if b1 = true then mt_gP 1 0 else []) ++ (if b2 = true then mt_gP 2 0 ++ mt_gW else [])) ++ (if b3 = true then mt_gP 3 0 ++ mt_gW else [])) ++ C by simp only [List.append_assoc], mt_rs_app]
    refine mi_co_b hC (fun T h1 hs1 he1 => ?_)
    rw [mt_rs_len] at h1 hs1 ⊢
    rw [if_pos hin, mi_tn (by omega), (he1 14 (by omega) (by omega)).2, hpm, show f - s + C.length = f - (s - C.length) by omega]
    cases b3 with
    | false =>
      rw [if_pos (show (x &&& (4 : Int64)) = 0 from k3.mpr rfl), if_neg (show ¬ (false = true) by decide), List.append_nil]
      exact b106 T _ _ hs1 (by omega)
    | true =>
      rw [if_neg (show ¬ (x &&& (4 : Int64)) = 0 from fun hh => by have := k3.mp hh; cases this), if_pos (show true = true from rfl)]
      exact wp 3 T _ _ _ _ (by omega) hs1 (by omega) (fun U s'' h1 h2 => b106 U s'' _ h1 h2)
  rw [mf_Coder_relation, if_pos hin, mi_tn (by omega), p2, show mt_cs 8 a = mt_rel a from rfl]
  have : a = 8 ∨ a = 9 ∨ a = 10 ∨ a = 11 ∨ a = 12 ∨ a = 13 := by omega
  rcases this with rfl | rfl | rfl | rfl | rfl | rfl
  all_goals
    simp (decide := true) only [mf_Coder_relation_b34, mf_Coder_relation_b39, mf_Coder_relation_b53, if_true, if_false] at b63 ⊢
    exact b63
theorem mt_c_cond (hN : 200 ≤ N) (hR' : 160 ≤ R) : ∀ (X : mt_T), mt_C X → ∀ (b s f y n : Nat) (t : mw_T), mt_RC o t b X → b + mt_sz X ≤ 160 → t.1 (16 + o) 4 = nI s → s ≤ 150 → mt_sz X ≤ f → s ≤ y → s ≤ n → mi_co o t s (mt_ge X (y - s) (n - s)) (mf_Coder_conditionR N R o f (nI (b + mt_sz X - 1)) (nI y) (nI n) t) := by
  intro X hX
  refine mt_Cind (P := fun X => ∀ (b s f y n : Nat) (t : mw_T), mt_RC o t b X → b + mt_sz X ≤ 160 → t.1 (16 + o) 4 = nI s → s ≤ 150 → mt_sz X ≤ f → s ≤ y → s ≤ n → mi_co o t s (mt_ge X (y - s) (n - s)) (mf_Coder_conditionR N R o f (nI (b + mt_sz X - 1)) (nI y) (nI n) t)) ?_ ?_ ?_ ?_ ?_ X hX
  · intro k a m c l r hk hl hr ih1 ih2 b s f y n t hR hb hs hsl hf hy hn
    rw [mt_RC_nd, mt_nC] at hR
    rw [mt_sz_nd] at hb hf ⊢
    obtain ⟨⟨p1, p2, p3, p4, p5, p6, p7⟩, hRl, hRr⟩ := hR
    have hpos := mt_C_pos hl
    have hpos2 := mt_C_pos hr
    have hin : mj_in (nI (b + mt_sz l + mt_sz r)) 160 = true := mi_inT (by omega) (by omega)
    obtain ⟨g, rfl⟩ : ∃ g, f = g + 1 := ⟨f - 1, by omega⟩
    have h2 := ih2 (b + mt_sz l) s g y n t hRr (by omega) hs hsl (by omega) hy hn
    rw [show b + (mt_sz l + mt_sz r + 1) - 1 = b + mt_sz l + mt_sz r by omega, me_Coder_conditionR, mf_Coder_conditionB, if_pos hin, mi_tn (by omega), p1, mt_ge_nd]
    rcases hk with rfl | rfl
    · simp (decide := true) only [if_false, if_true, show nI (mt_ck 5) = 10 from rfl]
      rw [if_pos hin, p4 (by omega)]
      refine mi_co_b h2 (fun T h1 hs1 he1 => ?_)
      rw [if_pos hin, mf_Program_start, mi_b, hs1, (he1 11 (by omega) (by omega)).1, p3 (by omega) (by omega), mi_bid]
      have := ih1 b _ g (s - (mt_ge r (y - s) (n - s)).length) n T (mt_RC_eq he1 _ _ hRl) (by omega) hs1 (by omega) (by omega) (Nat.le_refl _) (by omega)
      rw [Nat.sub_self, show n - (s - (mt_ge r (y - s) (n - s)).length) = n - s + (mt_ge r (y - s) (n - s)).length by omega] at this
      exact this
    · simp (decide := true) only [if_false, if_true, show nI (mt_ck 6) = 11 from rfl]
      rw [if_pos hin, p4 (by omega)]
      refine mi_co_b h2 (fun T h1 hs1 he1 => ?_)
      rw [if_pos hin, mf_Program_start, mi_b, hs1, (he1 11 (by omega) (by omega)).1, p3 (by omega) (by omega), mi_bid]
      have := ih1 b _ g y (s - (mt_ge r (y - s) (n - s)).length) T (mt_RC_eq he1 _ _ hRl) (by omega) hs1 (by omega) (by omega) (by omega) (Nat.le_refl _)
      rw [Nat.sub_self, show y - (s - (mt_ge r (y - s) (n - s)).length) = y - s + (mt_ge r (y - s) (n - s)).length by omega] at this
      exact this
  · intro a m c l hl ih b s f y n t hR hb hs hsl hf hy hn
    rw [mt_RC_nd, mt_nC] at hR
    rw [mt_sz_nd, mt_sz_0] at hb hf ⊢
    simp only [mt_sz_0, Nat.add_zero] at hR hb hf ⊢
    obtain ⟨⟨p1, p2, p3, p4, p5, p6, p7⟩, hRl, -⟩ := hR
    have hpos := mt_C_pos hl
    have hin : mj_in (nI (b + mt_sz l)) 160 = true := mi_inT (by omega) (by omega)
    obtain ⟨g, rfl⟩ : ∃ g, f = g + 1 := ⟨f - 1, by omega⟩
    rw [show b + (mt_sz l + 1) - 1 = b + mt_sz l by omega, me_Coder_conditionR, mf_Coder_conditionB, if_pos hin, mi_tn (by omega), p1, mt_ge_nd]
    simp (decide := true) only [if_false, if_true, show nI (mt_ck 7) = 9 from rfl]
    rw [if_pos hin, p3 (by omega) (by omega), mi_bid]
    exact ih b s g n y t hRl (by omega) hs hsl (by omega) hn hy
  · intro a m c l r ha hb' hl hr b s f y n t hR hb hs hsl hf hy hn
    have hR2 := hR
    rw [mt_RC_nd, mt_nC] at hR2
    rw [mt_sz_nd] at hb hf ⊢
    obtain ⟨⟨p1, p2, p3, p4, p5, p6, p7⟩, hRl, hRr⟩ := hR2
    have hin : mj_in (nI (b + mt_sz l + mt_sz r)) 160 = true := mi_inT (by omega) (by omega)
    obtain ⟨g, rfl⟩ : ∃ g, f = g + 1 := ⟨f - 1, by omega⟩
    rw [show b + (mt_sz l + mt_sz r + 1) - 1 = b + mt_sz l + mt_sz r by omega, me_Coder_conditionR, mf_Coder_conditionB, if_pos hin, mi_tn (by omega), p1, mt_ge_nd]
    simp (decide := true) only [if_false, if_true, show nI (mt_ck 8) = 4 from rfl]
    rw [mi_bid]
    exact mt_c_rel hl hr hN hR' b s a m c y n t ha hb' hR (by omega) hs hsl hy hn
  · intro a m c ha hb' b s f y n t hR hb hs hsl hf hy hn
    rw [mt_RC_nd, mt_nC] at hR
    rw [mt_sz_nd, mt_sz_0] at hb hf ⊢
    simp only [mt_sz_0, Nat.add_zero] at hR hb hf ⊢
    obtain ⟨⟨p1, p2, p3, p4, p5, p6, p7⟩, -, -⟩ := hR
    have hin : mj_in (nI b) 160 = true := mi_inT (by omega) (by omega)
    obtain ⟨g, rfl⟩ : ∃ g, f = g + 1 := ⟨f - 1, by omega⟩
    rw [show b + (0 + 1) - 1 = b by omega, me_Coder_conditionR, mf_Coder_conditionB, if_pos hin, mi_tn (by omega), p1, mt_ge_nd]
    simp (decide := true) only [if_false, if_true, show nI (mt_ck 9) = 5 from rfl]
    rw [if_pos hin, p2, show mt_cs 9 a = mq_cp a from rfl, mi_bid, show mt_gL 9 a m c mt_0 mt_0 = mt_gP a 2 from rfl]
    exact mt_c_proto hs hsl a y n (by omega) hy hn
  · intro k a m c hk ha hm hc b s f y n t hR hb hs hsl hf hy hn
    rw [mt_RC_nd, mt_nC] at hR
    rw [mt_sz_nd, mt_sz_0] at hb hf ⊢
    simp only [mt_sz_0, Nat.add_zero] at hR hb hf ⊢
    obtain ⟨⟨p1, p2, p3, p4, p5, p6, p7⟩, -, -⟩ := hR
    have hin : mj_in (nI b) 160 = true := mi_inT (by omega) (by omega)
    obtain ⟨g, rfl⟩ : ∃ g, f = g + 1 := ⟨f - 1, by omega⟩
    have h10 : t.1 (10 + o) b = nI (mq_ce a) := by rw [p2]; rcases hk with rfl | rfl | rfl <;> rfl
    have addr : k = 10 ∨ k = 11 → mi_co o t s (mt_rs (mt_gP 1 0 ++ mt_gEs k 4 26 30 a (nL m) (mq_nm k c)) (y - s) (n - s)) (mw_b (mf_Coder_ends N R o (nI b) (26 : Int32) (30 : Int32) (nI y) (nI n) t) (fun _ t15 => (mw_b (mf_Program_start N R o t15) (fun v16 t16 => (mw_b (mf_Coder_protocol N R o (1 : Int32) v16 (nI n) t16) (fun _ t17 => (some (.inl (), t17)))))))) := by
      intro hk2
      have hE := mt_c_ends (N := N) (R := R) hs hsl b k a m c 26 30 y n (by omega) hk ha (by omega) (by omega) p1 h10 (p6 (by omega)) (p7 (by omega)) hy hn
      rw [if_neg (show ¬ k = 12 by omega)] at hE
      rw [mt_rs_app]
      refine mi_co_b hE (fun T h1 hs1 he1 => ?_)
      rw [mt_rs_len] at h1 hs1 ⊢
      have := mt_c_proto0 (N := N) (R := R) hs1 (by omega) 1 n (y - s + (mt_gEs k 4 26 30 a (nL m) (mq_nm k c)).length) (by omega) (by omega)
      rw [show n - (s - (mt_gEs k 4 26 30 a (nL m) (mq_nm k c)).length) = n - s + (mt_gEs k 4 26 30 a (nL m) (mq_nm k c)).length by omega] at this
      exact this
    rw [show b + (0 + 1) - 1 = b by omega, me_Coder_conditionR, mf_Coder_conditionB, if_pos hin, mi_tn (by omega), p1, mt_ge_nd]
    rcases hk with rfl | rfl | rfl
    · simp (decide := true) only [if_false, if_true, show nI (mt_ck 10) = 6 from rfl]
      exact addr (by omega)
    · simp (decide := true) only [if_false, if_true, show nI (mt_ck 11) = 7 from rfl]
      exact addr (by omega)
    · simp (decide := true) only [if_false, if_true, show nI (mt_ck 12) = 8 from rfl]
      rw [mi_bid]
      exact mt_c_port hs hsl b a m c y n (by omega) ha p1 h10 (p6 (by omega)) (p7 (by omega)) hy hn
end
