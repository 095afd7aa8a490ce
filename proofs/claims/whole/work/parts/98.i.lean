/-! CONDITIONS in both programs -/
def mt_cS (pk : Nat → Nat) (n : Nat) : mt_T → Option Bool
  | .tag k (.tag a (.tag m (.tag c (.append l r)))) => if k = 5 then mq_th (mt_cS pk n l) (mt_cS pk n r) else if k = 6 then (match mt_cS pk n l with | some false => mt_cS pk n r | x => x) else if k = 7 then (mt_cS pk n l).map (fun b => !b) else
    if k = 8 then mq_rel pk n a l r else if k = 9 then mq_pr pk n a else if k = 12 then mq_port pk n a (nL m) else mq_addr pk n a (nL m) (mq_nm k c)
  | _ => none
theorem mt_cS_nd (pk : Nat → Nat) (n k a m c : Nat) (l r : mt_T) : mt_cS pk n (mt_nd k a m c l r) = (if k = 5 then mq_th (mt_cS pk n l) (mt_cS pk n r) else if k = 6 then (match mt_cS pk n l with | some false => mt_cS pk n r | x => x) else if k = 7 then (mt_cS pk n l).map (fun b => !b) else if k = 8 then mq_rel pk n a l r else if k = 9 then mq_pr pk n a else if k = 12 then mq_port pk n a (nL m) else mq_addr pk n a (nL m) (mq_nm k c)) := by rw [mt_nd, mt_cS]
section
variable {N R : Nat} {pk : Nat → Nat} {n : Nat}
theorem mq_verdict (hN : 180 ≤ N) (o : Nat) (ho : o = 0 ∨ o = 21) : ∀ (X : mt_T), mt_C X → ∀ (b f : Nat) (t : mw_T), mi_PktW pk n t → mt_RC o t b X → b + mt_sz X ≤ 160 → mt_sz X ≤ f → ∃ T, mf_Judge_verdictR N R o f (nI (b + mt_sz X - 1)) t = some (.inl (mv (mt_cS pk n X)), T) := by
  have keep : ∀ {f : Nat} {x v : Int32} {t T : mw_T}, mf_Judge_verdictR N R o f x t = some (.inl v, T) → (mi_PktW pk n t → mi_PktW pk n T) ∧ mt_eqC o t T := by
    intro f x v t T e
    have hF := mi_fr_F (mg_Judge_verdictR N R o f x t) e
    refine ⟨fun h => mi_PktW_ag (mi_ag_of ho (by decide) hF) h, fun q g1 g2 => ⟨fun i => (hF _ i ?_).1, fun i => (hF _ i ?_).2⟩⟩
    all_goals
      rintro (⟨x, hx, e1, _⟩ | ⟨x, hx, _⟩)
      · simp only [List.mem_cons, List.not_mem_nil, or_false] at hx
        subst hx
        simp only at e1
        omega
      · cases hx
  intro X hX
  refine mt_Cind (P := fun X => ∀ (b f : Nat) (t : mw_T), mi_PktW pk n t → mt_RC o t b X → b + mt_sz X ≤ 160 → mt_sz X ≤ f → ∃ T, mf_Judge_verdictR N R o f (nI (b + mt_sz X - 1)) t = some (.inl (mv (mt_cS pk n X)), T)) ?_ ?_ ?_ ?_ ?_ X hX
  · intro k a m c l r hk hl hr ih1 ih2 b f t h hR hb hf
    rw [mt_RC_nd, mt_nC] at hR
    rw [mt_sz_nd] at hb hf ⊢
    obtain ⟨⟨p1, p2, p3, p4, p5, p6, p7⟩, hRl, hRr⟩ := hR
    have hpos := mt_C_pos hl
    have hpos2 := mt_C_pos hr
    have hin : mj_in (nI (b + mt_sz l + mt_sz r)) 160 = true := mi_inT (by omega) (by omega)
    obtain ⟨g, rfl⟩ : ∃ g, f = g + 1 := ⟨f - 1, by omega⟩
    obtain ⟨T1, e1⟩ := ih1 b g t h hRl (by omega) (by omega)
    obtain ⟨k1, k2⟩ := keep e1
    obtain ⟨T2, e2⟩ := ih2 (b + mt_sz l) g T1 (k1 h) (mt_RC_eq k2 _ _ hRr) (by omega) (by omega)
    have q4 : T1.1 (12 + o) (b + mt_sz l + mt_sz r) = nI (b + mt_sz l + mt_sz r - 1) := by rw [(k2 12 (by omega) (by omega)).1]; exact p4 (by omega)
    rw [show b + (mt_sz l + mt_sz r + 1) - 1 = b + mt_sz l + mt_sz r by omega, me_Judge_verdictR, mf_Judge_verdictB, if_pos hin, mi_tn (by omega), p1, mt_cS_nd]
    rcases hk with rfl | rfl
    · simp (decide := true) only [if_false, if_true, show nI (mt_ck 5) = 10 from rfl]
      rw [if_pos hin, p3 (by omega) (by omega), e1, mi_b]
      cases mt_cS pk n l with
      | none => exact ⟨_, rfl⟩
      | some bb =>
        cases bb with
        | false => exact ⟨_, rfl⟩
        | true =>
          rw [if_pos (show mv (some true) = 1 from rfl), if_pos hin, q4, e2, mi_b]
          exact ⟨_, rfl⟩
    · simp (decide := true) only [if_false, if_true, show nI (mt_ck 6) = 11 from rfl]
      rw [if_pos hin, p3 (by omega) (by omega), e1, mi_b]
      cases mt_cS pk n l with
      | none => exact ⟨_, rfl⟩
      | some bb =>
        cases bb with
        | true => exact ⟨_, rfl⟩
        | false =>
          rw [if_pos (show mv (some false) = 0 from rfl), if_pos hin, q4, e2, mi_b]
          exact ⟨_, rfl⟩
  · intro a m c l hl ih b f t h hR hb hf
    rw [mt_RC_nd, mt_nC] at hR
    rw [mt_sz_nd, mt_sz_0] at hb hf ⊢
    simp only [mt_sz_0, Nat.add_zero] at hR hb hf ⊢
    obtain ⟨⟨p1, p2, p3, p4, p5, p6, p7⟩, hRl, -⟩ := hR
    have hpos := mt_C_pos hl
    have hin : mj_in (nI (b + mt_sz l)) 160 = true := mi_inT (by omega) (by omega)
    obtain ⟨g, rfl⟩ : ∃ g, f = g + 1 := ⟨f - 1, by omega⟩
    obtain ⟨T1, e1⟩ := ih b g t h hRl (by omega) (by omega)
    rw [show b + (mt_sz l + 1) - 1 = b + mt_sz l by omega, me_Judge_verdictR, mf_Judge_verdictB, if_pos hin, mi_tn (by omega), p1, mt_cS_nd]
    simp (decide := true) only [if_false, if_true, show nI (mt_ck 7) = 9 from rfl]
    rw [if_pos hin, p3 (by omega) (by omega), e1, mi_b]
    cases mt_cS pk n l with
    | none => exact ⟨_, rfl⟩
    | some bb => cases bb <;> exact ⟨_, rfl⟩
  · intro a m c l r ha hb' hl hr b f t h hR hb hf
    have hR' := hR
    rw [mt_RC_nd, mt_nC] at hR'
    rw [mt_sz_nd] at hb hf ⊢
    obtain ⟨⟨p1, p2, p3, p4, p5, p6, p7⟩, hRl, hRr⟩ := hR'
    have hin : mj_in (nI (b + mt_sz l + mt_sz r)) 160 = true := mi_inT (by omega) (by omega)
    obtain ⟨g, rfl⟩ : ∃ g, f = g + 1 := ⟨f - 1, by omega⟩
    obtain ⟨T, e⟩ := mq_jrel (N := N) (R := R) (by omega) h o b a m c l r ha hb' hl hr hR (by omega)
    rw [show b + (mt_sz l + mt_sz r + 1) - 1 = b + mt_sz l + mt_sz r by omega, me_Judge_verdictR, mf_Judge_verdictB, if_pos hin, mi_tn (by omega), p1, mt_cS_nd]
    simp (decide := true) only [if_false, if_true, show nI (mt_ck 8) = 4 from rfl]
    rw [e, mi_b]
    exact ⟨_, rfl⟩
  · intro a m c ha hb' b f t h hR hb hf
    rw [mt_RC_nd, mt_nC] at hR
    rw [mt_sz_nd, mt_sz_0] at hb hf ⊢
    simp only [mt_sz_0, Nat.add_zero] at hR hb hf ⊢
    obtain ⟨⟨p1, p2, p3, p4, p5, p6, p7⟩, -, -⟩ := hR
    have hin : mj_in (nI b) 160 = true := mi_inT (by omega) (by omega)
    obtain ⟨g, rfl⟩ : ∃ g, f = g + 1 := ⟨f - 1, by omega⟩
    rw [show b + (0 + 1) - 1 = b by omega, me_Judge_verdictR, mf_Judge_verdictB, if_pos hin, mi_tn (by omega), p1, mt_cS_nd]
    simp (decide := true) only [if_false, if_true, show nI (mt_ck 9) = 5 from rfl]
    rw [if_pos hin, p2, show mt_cs 9 a = mq_cp a from rfl, mq_protocol (by omega) h o a (by omega), mi_b]
    exact ⟨_, rfl⟩
  · intro k a m c hk ha hm hc b f t h hR hb hf
    rw [mt_RC_nd, mt_nC] at hR
    rw [mt_sz_nd, mt_sz_0] at hb hf ⊢
    simp only [mt_sz_0, Nat.add_zero] at hR hb hf ⊢
    obtain ⟨⟨p1, p2, p3, p4, p5, p6, p7⟩, -, -⟩ := hR
    have hin : mj_in (nI b) 160 = true := mi_inT (by omega) (by omega)
    obtain ⟨g, rfl⟩ : ∃ g, f = g + 1 := ⟨f - 1, by omega⟩
    have hs : t.1 (10 + o) b = nI (mq_ce a) := by rw [p2]; rcases hk with rfl | rfl | rfl <;> rfl
    rw [show b + (0 + 1) - 1 = b by omega, me_Judge_verdictR, mf_Judge_verdictB, if_pos hin, mi_tn (by omega), p1, mt_cS_nd]
    have hA := mq_jaddr (N := N) (R := R) (by omega) h o b a (by omega) ha hs
    rw [p6 (by omega), p7 (by omega)] at hA
    rcases hk with rfl | rfl | rfl
    · simp (decide := true) only [if_false, if_true, show nI (mt_ck 10) = 6 from rfl]
      rw [hA, mi_b]
      exact ⟨_, rfl⟩
    · simp (decide := true) only [if_false, if_true, show nI (mt_ck 11) = 7 from rfl]
      rw [hA, mi_b]
      exact ⟨_, rfl⟩
    · simp (decide := true) only [if_false, if_true, show nI (mt_ck 12) = 8 from rfl]
      have hP := mq_jport (N := N) (R := R) (by omega) h o b a (by omega) ha hs (by rw [p7 (by omega)]; rfl)
      rw [p6 (by omega)] at hP
      rw [hP, mi_b]
      exact ⟨_, rfl⟩
/-- a leaf of the reference -/
theorem mq_isLeaf (hN : 180 ≤ N) {t : mw_T} (h : mi_PktW pk n t) (h0 : t.1 49 53 = 0) (b k a m c : Nat) (l r : mt_T) (hk : 8 ≤ k) (hC : mt_C (mt_nd k a m c l r)) (hR : mt_RM 12 t b (mt_nd k a m c l r)) (hsz : b + mt_sz l + mt_sz r < 170) : mi_lg (mt_cS pk n (mt_nd k a m c l r)) t (mf_Model_isLeaf N R (nI (b + mt_sz l + mt_sz r)) t) := by
  have hR' := hR
  rw [mt_RM_nd, mt_nM] at hR'
  obtain ⟨⟨p1, p2, p3, p4, p5, p6, p7, p8⟩, hRl, hRr⟩ := hR'
  have hin : mj_in (nI (b + mt_sz l + mt_sz r)) 170 = true := mi_inT (by omega) (by omega)
  have pass : ∀ {r : Option Bool} {X : mw_X Int32}, mi_lg r t X → mi_lg r t (mw_b X (fun v t' => (if v = 0 ∨ v = 1 then (some (.inl v, t')) else none))) := by
    intro r X hX
    obtain ⟨v, T, e1, e2, e3⟩ := hX
    subst e1
    rw [mi_b, if_pos e2]
    exact ⟨v, T, rfl, e2, e3⟩
  rw [mt_C_nd] at hC
  rcases hC with ⟨hk', _⟩ | ⟨hk', _⟩ | ⟨rfl, ha, hb, hl, hr⟩ | ⟨rfl, ha, hb, rfl, rfl⟩ | ⟨hk', ha, hm, hc, rfl, rfl⟩
  · omega
  · omega
  · rw [mf_Model_isLeaf, if_pos hin, mi_tn (by omega), p1, mt_cS_nd]
    simp (decide := true) only [if_false, if_true, show nI 8 = (8 : Int32) from rfl]
    exact pass (mq_isRel hN h h0 b a m c l r ha hb hl hr hR hsz)
  · simp only [mt_sz_0, Nat.add_zero] at *
    rw [mf_Model_isLeaf, if_pos hin, mi_tn (by omega), p1, mt_cS_nd]
    simp (decide := true) only [if_false, if_true, show ¬ nI 9 = (8 : Int32) by decide, show nI 9 = (9 : Int32) from rfl]
    rw [if_pos hin, p2]
    by_cases c1 : a = 1
    · subst c1
      rw [if_pos (show nI 1 = (1 : Int32) from rfl)]
      have : mq_pr pk n 1 = mq_ip pk n := by
        unfold mq_pr
        cases mq_ip pk n with
        | none => rfl
        | some b => cases b <;> rfl
      rw [this, mq_isIp (by omega) h]
      exact pass (mi_lg_lf h0 (mi_lf_bj _ _))
    · rw [if_neg (show ¬ nI a = (1 : Int32) from mi_neT (b := 1) (by omega) (by omega) c1), if_pos hin, mq_is (by omega) h h0 a (by omega)]
      exact pass (mi_lg_lf h0 (mi_lf_bj _ _))
  · simp only [mt_sz_0, Nat.add_zero] at *
    have q6 := p6 (by omega)
    have q8 := p8 (by omega)
    have addr : k = 10 ∨ k = 11 → mi_lg (mq_addr pk n a (nL m) (mq_nm k c)) t (mw_b (mf_Model_isIp N R t) (fun v6 t6 => (if v6 = 0 then (some (.inl (0 : Int32), t6)) else (if (t6.1 49 53) = 0 then (mw_b (mf_Model_isSide N R (nI b) (26 : Int64) (30 : Int64) (4 : Int32) t6) (fun v7 t7 => (if v7 = 0 then (some (.inl (0 : Int32), t7)) else (some (.inl (1 : Int32), t7))))) else (some (.inl (0 : Int32), t6)))))) := by
      intro hk2
      rw [mq_isIp (by omega) h, mq_addr]
      cases mq_ip pk n with
      | none =>
        rw [mi_bj, mi_b, if_pos rfl]
        exact mi_lg_rej t 0 (Or.inl rfl)
      | some bb =>
        cases bb with
        | false =>
          rw [mi_bj, mi_b, if_pos (show mj_b2 false = 0 from rfl)]
          exact mi_lg_ok h0 false
        | true =>
          rw [mi_bj, mi_b, if_neg (show ¬ mj_b2 true = 0 by decide), if_pos h0]
          simp only
          obtain ⟨v, T, g1, g2, g3⟩ := mi_lg_lf h0 (mq_isSide (N := N) (R := R) (by omega) h h0 b k a c 26 30 4 (by omega) ha (by omega) (by omega) (by omega) (by omega) hc p2 p1 q6)
          rw [q8] at g3
          rw [show (26 : Int64) = nL 26 from rfl, show (30 : Int64) = nL 30 from rfl, show (4 : Int32) = nI 4 from rfl, g1, mi_b]
          refine ⟨v, T, ?_, g2, g3⟩
          rcases g2 with rfl | rfl <;> rfl
    rw [mf_Model_isLeaf, if_pos hin, mi_tn (by omega), p1, mt_cS_nd]
    rcases hk' with rfl | rfl | rfl
    · simp (decide := true) only [if_false, if_true]
      exact addr (Or.inl rfl)
    · simp (decide := true) only [if_false, if_true]
      exact addr (Or.inr rfl)
    · simp (decide := true) only [if_false, if_true]
      have := mi_lg_lf h0 (mq_isPort (N := N) (R := R) (by omega) h h0 b a c (by omega) ha hc p2 p1 q6)
      rw [q8] at this
      exact pass this
end
