/-! RELATIONS and LEAVES of the reference -/
/-- an answer of the reference's leaf -/
def mi_lg (r : Option Bool) (t : mw_T) (X : mw_X Int32) : Prop := ∃ v T, X = some (.inl v, T) ∧ (v = 0 ∨ v = 1) ∧ mi_fr [] 0 [(49, 53), (71, 1000)] t T ∧ (r = none → T.1 49 53 = 1) ∧ (∀ b, r = some b → T.1 49 53 = 0 ∧ v = mj_b2 b)
theorem mi_fr53 (t : mw_T) : mi_fr [] 0 [(49, 53), (71, 1000)] t (mw_wi t 49 53 1) := fun q i hq => ⟨mw_up_ne (fun hc => hq (Or.inr ⟨(49, 53), by simp, hc.1, Or.inr hc.2⟩)), rfl⟩
theorem mi_fr_rf (A : List (Nat × Nat)) (o : Nat) (B : List (Nat × Nat)) (t : mw_T) : mi_fr A o B t t := fun _ _ _ => ⟨rfl, rfl⟩
theorem mi_lg_rej (t : mw_T) (v : Int32) (hv : v = 0 ∨ v = 1) : mi_lg none t (some (.inl v, mw_wi t 49 53 1)) := ⟨v, _, rfl, hv, mi_fr53 t, fun _ => rfl, fun b h => by cases h⟩
theorem mi_lg_ok {t : mw_T} (h0 : t.1 49 53 = 0) (b : Bool) : mi_lg (some b) t (some (.inl (mj_b2 b), t)) := ⟨_, _, rfl, mj_b2_01 b, mi_fr_rf _ _ _ t, (fun h => by cases h), fun b' h => by cases h; exact ⟨h0, rfl⟩⟩
theorem mi_lg_lf {r : Option Bool} {t : mw_T} {X : mw_X Int32} (h0 : t.1 49 53 = 0) (h : mi_lf r t X) : mi_lg r t X := by
  obtain ⟨v, T, h1, h2, h3⟩ := h
  cases r with
  | none =>
    have : T = mw_wi t 49 53 1 := h3
    subst this
    exact ⟨v, _, h1, h2, mi_fr53 t, fun _ => rfl, fun b h => by cases h⟩
  | some b =>
    have : T = t ∧ v = mj_b2 b := h3
    obtain ⟨rfl, hv⟩ := this
    exact ⟨v, _, h1, h2, mi_fr_rf _ _ _ _, (fun h => by cases h), fun b' h => by cases h; exact ⟨h0, hv⟩⟩
/-- first the one, then, where it holds, the other -/
def mq_th (x y : Option Bool) : Option Bool := match x with
  | some true => y
  | x => x
theorem mq_th_tt (y : Option Bool) : mq_th (some true) y = y := rfl
theorem mq_th_as (x y z : Option Bool) : mq_th (mq_th x y) z = mq_th x (mq_th y z) := by
  cases x with
  | none => rfl
  | some b => cases b <;> rfl
section
variable {N R : Nat} {pk : Nat → Nat} {n : Nat}
def mq_vs (pk : Nat → Nat) (n a : Nat) (l r : mt_T) : Option Bool := match mt_vS pk n l with
  | none => none
  | some v => (match mt_vS pk n r with
    | none => none
    | some w => some (mq_cmp a v w))
theorem mq_rel_th (a : Nat) (l r : mt_T) : mq_rel pk n a l r = mq_th (if mt_ac 1 l || mt_ac 1 r then mq_ip pk n else some true) (mq_th (if mt_ac 2 l || mt_ac 2 r then mq_wp pk n 2 else some true) (mq_th (if mt_ac 3 l || mt_ac 3 r then mq_wp pk n 3 else some true) (mq_vs pk n a l r))) := by
  have e1 : mq_p1 pk n (mt_ac 1 l || mt_ac 1 r) = (if mt_ac 1 l || mt_ac 1 r then mq_ip pk n else some true) := by
    unfold mq_p1 mq_pr
    cases mq_ip pk n with
    | none => rfl
    | some b => cases b <;> rfl
  have e2 : ∀ b f, mq_p2 pk n b f = mq_th f (if b then mq_wp pk n 2 else some true) := by
    intro b f
    cases f with
    | none => rfl
    | some c => cases c <;> rfl
  have e3 : ∀ b f, mq_p3 pk n b f = mq_th f (if b then mq_wp pk n 3 else some true) := by
    intro b f
    cases f with
    | none => rfl
    | some c => cases c <;> rfl
  have e4 : mq_rel pk n a l r = mq_th (mq_p3 pk n (mt_ac 3 l || mt_ac 3 r) (mq_p2 pk n (mt_ac 2 l || mt_ac 2 r) (mq_p1 pk n (mt_ac 1 l || mt_ac 1 r)))) (mq_vs pk n a l r) := by
    unfold mq_rel mq_th mq_vs
    rfl
  rw [e4, e3, e2, e1, mq_th_as, mq_th_as]
theorem mq_mcmp (a i : Nat) (ha : 8 ≤ a) (hb : a ≤ 13) (x y : Nat) (hi : i < 170) (hx : x < 170) (hy : y < 170) (t : mw_T) (q1 : t.1 65 i = nI x) (q2 : t.1 66 i = nI y) (q3 : t.1 64 i = nI a) : mf_Model_isRelated_b114 N R (nI i) t = some (.inl (mj_b2 (mq_cmp a (t.2.1 71 x) (t.2.1 71 y))), t) := by
  have hin : mj_in (nI i) 170 = true := mi_inT (by omega) hi
  have hin2 : mj_in (nI x) 170 = true := mi_inT (by omega) hx
  have hin3 : mj_in (nI y) 170 = true := mi_inT (by omega) hy
  rw [mf_Model_isRelated_b114, if_pos hin, mi_tn (by omega), q1, q2, q3, if_pos hin2, if_pos hin, if_pos hin3, if_pos hin, mi_tn (by omega), mi_tn (by omega)]
  have : a = 8 ∨ a = 9 ∨ a = 10 ∨ a = 11 ∨ a = 12 ∨ a = 13 := by omega
  rcases this with rfl | rfl | rfl | rfl | rfl | rfl
  all_goals simp (decide := true) only [mf_Model_isRelated_b204, mf_Model_isRelated_b220, mq_cmp, mj_b2, ite_true, ite_false, if_true, if_false, decide_eq_true_eq, Bool.not_eq_true', decide_eq_false_iff_not, ite_not]
  all_goals (split <;> rfl)
theorem mq_isRel (hN : 180 ≤ N) {t : mw_T} (h : mi_PktW pk n t) (h0 : t.1 49 53 = 0) (b a m c : Nat) (l r : mt_T) (ha : 8 ≤ a) (hb : a ≤ 13) (hl : mt_V l) (hr : mt_V r) (hR : mt_RM 12 t b (mt_nd 8 a m c l r)) (hsz : b + mt_sz l + mt_sz r < 170) : mi_lg (mq_rel pk n a l r) t (mf_Model_isRelated N R (nI (b + mt_sz l + mt_sz r)) t) := by
  have hR' := hR
  rw [mt_RM_nd, mt_nM] at hR'
  obtain ⟨⟨p1, p2, p3, p4, p5, p6, p7, p8⟩, hRl, hRr⟩ := hR'
  have hpos := mt_V_pos hl
  have hpos2 := mt_V_pos hr
  have hin : mj_in (nI (b + mt_sz l + mt_sz r)) 170 = true := mi_inT (by omega) (by omega)
  have hold : ∀ p, p < 100 → mf_Model_hasOld N R (nI (b + mt_sz l + mt_sz r)) (nI p) t = some (.inl (mj_b2 (mt_ac p l || mt_ac p r)), t) := fun p hp => mq_hasOld (by omega) b a m c p l r hp hl hr hR hsz
  -- the values
  have vals : (mt_ac 2 l = true ∨ mt_ac 3 l = true ∨ mt_ac 2 r = true ∨ mt_ac 3 r = true → 15 ≤ n) → ∀ g, mi_lg (mq_vs pk n a l r) t (mf_Model_isRelated_l27 N R (g + 1) (nI (b + mt_sz l + mt_sz r)) (nI 4) t) := by
    intro hlen g
    rw [me_Model_isRelated_l27, mf_Model_isRelated_l27B, if_pos (show (3 : Int32) < nI 4 by decide), if_pos hin, mi_tn (by omega), p7]
    obtain ⟨f, hf⟩ : ∃ f, N = mt_sz l + (mt_sz r + (f + 1)) := ⟨N - (mt_sz l + (mt_sz r + 1)), by omega⟩
    have IH := mq_mval (N := N) (R := R) (pk := pk) (n := n) (by omega) (b + mt_sz l + mt_sz r) hsz l hl b (mt_sz r + (f + 1)) t (by omega) h h0 hRl (fun hh => hlen (by rcases hh with hh | hh <;> simp [hh])) (by omega)
    rw [← hf] at IH
    -- an end by rejection
    have rej : ∀ T : mw_T, T.1 49 53 = 1 → mi_fr [] 0 [(49, 53), (71, 1000)] t T → mi_lg none t (mf_Model_isRelated_b114 N R (nI (b + mt_sz l + mt_sz r)) T) := by
      intro T hT hfr
      have row : ∀ q, q ≠ 49 → q ≠ 71 → T.1 q (b + mt_sz l + mt_sz r) = t.1 q (b + mt_sz l + mt_sz r) := fun q g1 g2 => (hfr q _ (by
        rintro (⟨x, hx, _⟩ | ⟨x, hx, e1, _⟩)
        · cases hx
        · simp only [List.mem_cons, List.not_mem_nil, or_false] at hx
          rcases hx with rfl | rfl
          · exact g1 e1
          · exact g2 e1)).1
      rw [mq_mcmp a _ ha hb (b + mt_sz l - 1) (b + mt_sz l + mt_sz r - 1) hsz (by omega) (by omega) T ((row 65 (by decide) (by decide)).trans (p3 (by omega) (by omega))) ((row 66 (by decide) (by decide)).trans (p5 (by omega))) ((row 64 (by decide) (by decide)).trans p2)]
      exact ⟨_, _, rfl, mj_b2_01 _, hfr, fun _ => hT, fun b h => by cases h⟩
    unfold mq_vs
    cases hvl : mt_vS pk n l with
    | none =>
      rw [hvl] at IH
      obtain ⟨T, e1, e2, e3⟩ := IH
      rw [e1]
      exact rej T e2 e3
    | some v =>
      rw [hvl] at IH
      obtain ⟨T, e1, e2, e3, e4, e5⟩ := IH
      simp only
      rw [e1]
      have hT : mi_PktW pk n T := by
        obtain ⟨q1, q2, q3, q4⟩ := h
        exact ⟨q1, by rw [e2]; exact q2, by rw [e2]; exact q3, fun j hj => by rw [e2]; exact q4 j hj⟩
      have hRr' : mt_RM 12 T (b + mt_sz l) r := mt_RM_eq (e := 170) (fun i _ => ⟨⟨by rw [e2], by rw [e2], by rw [e2], by rw [e2], by rw [e2]⟩, e3 _ _ (by omega)⟩) _ _ (by omega) hRr
      have IH2 := mq_mval (N := N) (R := R) (pk := pk) (n := n) (by omega) (b + mt_sz l + mt_sz r) hsz r hr (b + mt_sz l) (f + 1) T (by omega) hT (by rw [e2]; exact h0) hRr' (fun hh => hlen (by rcases hh with hh | hh <;> simp [hh])) (by omega)
      cases hvr : mt_vS pk n r with
      | none =>
        rw [hvr] at IH2
        obtain ⟨T', f1, f2, f3⟩ := IH2
        simp only
        rw [f1]
        refine rej T' f2 (fun q i hq => ?_)
        obtain ⟨g1, g2⟩ := f3 q i hq
        have hq' : q ≠ 71 := fun hc => hq (Or.inr ⟨(71, 1000), by simp, hc, Or.inl rfl⟩)
        exact ⟨g1.trans (by rw [e2]), g2.trans (e3 q i hq')⟩
      | some w =>
        rw [hvr] at IH2
        obtain ⟨T2, f1, f2, f3, f4, f5⟩ := IH2
        simp only
        rw [f1, me_Model_isRelated_l85, mf_Model_isRelated_l85B, if_neg (mi_ltF (by omega) (by omega)), mq_mcmp a _ ha hb (b + mt_sz l - 1) (b + mt_sz l + mt_sz r - 1) hsz (by omega) (by omega) T2 (by rw [f2, e2]; exact p3 (by omega) (by omega)) (by rw [f2, e2]; exact p5 (by omega)) (by rw [f2, e2]; exact p2), f4 _ (by omega), e5, f5]
        refine ⟨_, _, rfl, mj_b2_01 _, fun q i hq => ?_, (fun h => by cases h), fun b' h => by cases h; exact ⟨by rw [f2, e2]; exact h0, rfl⟩⟩
        have hq' : q ≠ 71 := fun hc => hq (Or.inr ⟨(71, 1000), by simp, hc, Or.inl rfl⟩)
        exact ⟨by rw [f2, e2], (f3 q i hq').trans (e3 q i hq')⟩
  -- a protocol of which packets must be whole
  have step : ∀ p, p = 2 ∨ p = 3 → ∀ (g : Nat) (V : Option Bool), ((if mt_ac p l || mt_ac p r then mq_wp pk n p else some true) = some true → mi_lg V t (mf_Model_isRelated_l27 N R g (nI (b + mt_sz l + mt_sz r)) (nI (p + 1)) t)) → mi_lg (mq_th (if mt_ac p l || mt_ac p r then mq_wp pk n p else some true) V) t (mf_Model_isRelated_l27 N R (g + 1) (nI (b + mt_sz l + mt_sz r)) (nI p) t) := by
    intro p hp g V hV
    rw [me_Model_isRelated_l27, mf_Model_isRelated_l27B, if_neg (show ¬ (3 : Int32) < nI p from mi_ltF (a := 3) (by omega) (by omega)), hold p (by omega), mi_b]
    have b63 : mf_Model_isRelated_b63 N R (mf_Model_isRelated_l27 N R g) (nI (b + mt_sz l + mt_sz r)) (nI p) t = mf_Model_isRelated_l27 N R g (nI (b + mt_sz l + mt_sz r)) (nI (p + 1)) t := by
      rw [mf_Model_isRelated_b63, if_pos h0, mi_l1, mi_add]
    cases hac : (mt_ac p l || mt_ac p r) with
    | false =>
      rw [hac] at hV
      rw [if_pos (show mj_b2 false = 0 from rfl), b63]
      exact hV rfl
    | true =>
      rw [hac] at hV
      rw [if_neg (show ¬ mj_b2 true = 0 by decide), mq_is (by omega) h h0 p hp, if_pos rfl, mq_wp] at *
      cases hpr : mq_pr pk n p with
      | none =>
        rw [mi_bj, mi_b, if_pos rfl]
        exact mi_lg_rej t 0 (Or.inl rfl)
      | some bb =>
        cases bb with
        | false =>
          rw [mi_bj, mi_b, if_pos (show mj_b2 false = 0 from rfl)]
          exact mi_lg_ok h0 false
        | true =>
          rw [hpr] at hV
          rw [mi_bj, mi_b, if_neg (show ¬ mj_b2 true = 0 by decide), if_pos h0, mq_isWhole (by omega) h h0]
          simp only
          cases hwh : mq_wh pk n with
          | none =>
            simp only [mi_b]
            rw [if_neg (by decide), mf_Model_isRelated_b63, if_neg (show ¬ (mw_wi t 49 53 1).1 49 53 = 0 from (by decide : ¬ (1 : Int32) = 0))]
            exact mi_lg_rej t 0 (Or.inl rfl)
          | some b3 =>
            cases b3 with
            | false =>
              simp only [mi_b]
              rw [if_pos (show mj_b2 false = 0 from rfl)]
              exact mi_lg_ok h0 false
            | true =>
              simp only [mi_b]
              rw [if_neg (show ¬ mj_b2 true = 0 by decide), b63]
              exact hV hwh
  have wp_len : ∀ p, p = 2 ∨ p = 3 → mt_ac p l = true ∨ mt_ac p r = true → (if mt_ac p l || mt_ac p r then mq_wp pk n p else some true) = some true → 15 ≤ n := by
    intro p hp hh e
    rw [if_pos (by rcases hh with hh | hh <;> simp [hh])] at e
    unfold mq_wp at e
    cases hpr : mq_pr pk n p with
    | none => rw [hpr] at e; cases e
    | some b =>
      cases b with
      | false => rw [hpr] at e; cases e
      | true =>
        have := mq_pr_len hp hpr rfl
        omega
  obtain ⟨g, hg⟩ : ∃ g, N = g + 1 + 1 + 1 := ⟨N - 3, by omega⟩
  have b16 : mi_lg (mq_th (if mt_ac 2 l || mt_ac 2 r then mq_wp pk n 2 else some true) (mq_th (if mt_ac 3 l || mt_ac 3 r then mq_wp pk n 3 else some true) (mq_vs pk n a l r))) t (mf_Model_isRelated_b16 N R (nI (b + mt_sz l + mt_sz r)) t) := by
    rw [mf_Model_isRelated_b16, if_pos h0]
    have s2 := step 2 (Or.inl rfl) (g + 1 + 1) (mq_th (if mt_ac 3 l || mt_ac 3 r then mq_wp pk n 3 else some true) (mq_vs pk n a l r)) (fun e2 => step 3 (Or.inr rfl) (g + 1) (mq_vs pk n a l r) (fun e3 => vals (fun hh => by
      rcases hh with hh | hh | hh | hh
      · exact wp_len 2 (Or.inl rfl) (Or.inl hh) e2
      · exact wp_len 3 (Or.inr rfl) (Or.inl hh) e3
      · exact wp_len 2 (Or.inl rfl) (Or.inr hh) e2
      · exact wp_len 3 (Or.inr rfl) (Or.inr hh) e3) g))
    rw [← hg] at s2
    exact s2
  rw [mq_rel_th, mf_Model_isRelated, show (1 : Int32) = nI 1 from rfl, hold 1 (by omega), mi_b]
  cases hac : (mt_ac 1 l || mt_ac 1 r) with
  | false =>
    rw [if_pos (show mj_b2 false = 0 from rfl), if_neg (by decide)]
    exact b16
  | true =>
    rw [if_neg (show ¬ mj_b2 true = 0 by decide), if_pos rfl, mq_isIp (by omega) h]
    cases hip : mq_ip pk n with
    | none =>
      rw [mi_bj, mi_b, if_pos rfl]
      exact mi_lg_rej t 0 (Or.inl rfl)
    | some bb =>
      cases bb with
      | false =>
        rw [mi_bj, mi_b, if_pos (show mj_b2 false = 0 from rfl)]
        exact mi_lg_ok h0 false
      | true =>
        rw [mi_bj, mi_b, if_neg (show ¬ mj_b2 true = 0 by decide)]
        exact b16
end
