/-! .. ends, ports, values -/
section
variable {N R : Nat}
/-- one side: the load, the mask, the test -/
theorem mt_m_side {t : mw_T} {c : Nat} {F : Bool} (h f : Int32) (hs : mi_sM t c F) (i k e ld p jn : Nat) (x12 : Int32) (w m : Int64) (hm : mi_u m) (hw : mi_u w) (hi : i < 170) (hld : ld < 100) (hld2 : ld ≠ 9 ∧ ld ≠ 10 ∧ ld ≠ 11) (hp : p < 4294967296)
    (L : mi_P) (r46 : Int32 → Int32 → Int64 → Int64 → Int64 → Int32 → Int64 → Int32 → mw_T → mw_X Unit) (a3 a5 : Int64) (x9 : Int32) (hx9 : x9 = if k = 11 then 1 else 0) (h52 : t.1 52 i = nI e) (he : e = 1 ∨ e = 2 ∨ e = 3) (h56 : t.1 56 i = h) (h57 : t.1 57 i = f) (hjn : jn = if e = 3 ∧ x12 = 1 then 0 else 3)
    (hr : ∀ T c' F', mi_km t T → mi_sM T c' F' → mi_em T c' F' h f L (r46 (nI i) (nI ld) a3 a5 m x9 w (x12 + Int32.ofInt 1) T)) :
    mi_em t c F h f ((([(ld, 0, 0, nL p)] ++ (if k = 11 then [(26, 0, 0, m)] else [])) ++ [(40, 2, jn, w)]) ++ L) (mf_Model_emitSides_b78 N R r46 (nI i) (nI ld) a3 a5 m x9 w x12 (nL p) (nI ld) t) := by
  have hin : mj_in (nI i) 170 = true := mi_inT (by omega) hi
  have b132 : ∀ (T : mw_T) (c' : Nat) (F' : Bool) (j : Nat), mi_km t T → mi_sM T c' F' → mi_em T c' F' h f ([(40, 2, j, w)] ++ L) (mf_Model_emitSides_b132 N R r46 (nI i) (nI ld) a3 a5 m x9 w x12 (mi_lab h f j) h w (40 : Int32) T) := by
    intro T c' F' j hk hT
    rw [mf_Model_emitSides_b132]
    refine mi_em_b (mi_em_1 (N := N) (R := R) h f hT 40 (by omega) 2 j w w (mi_u_maskid hw) (by omega)) (fun U hk2 hU => ?_)
    rw [mf_Model_emitSides_b135]
    exact hr U _ _ (mi_km_tr hk hk2) hU
  have b94 : ∀ (T : mw_T) (c' : Nat) (F' : Bool), mi_km t T → mi_sM T c' F' → mi_em T c' F' h f ([(40, 2, jn, w)] ++ L) (mf_Model_emitSides_b94 N R r46 (nI i) (nI ld) a3 a5 m x9 w x12 T) := by
    intro T c' F' hk hT
    have q52 : T.1 52 i = nI e := ((hk 52 (by omega) i).1).trans h52
    have q56 : T.1 56 i = h := ((hk 56 (by omega) i).1).trans h56
    have q57 : T.1 57 i = f := ((hk 57 (by omega) i).1).trans h57
    rw [mf_Model_emitSides_b94, if_pos hin, if_pos hin, mi_tn (by omega), q52, q56]
    have b126 : mf_Model_emitSides_b126 N R r46 (nI i) (nI ld) a3 a5 m x9 w x12 h w (40 : Int32) T = mf_Model_emitSides_b132 N R r46 (nI i) (nI ld) a3 a5 m x9 w x12 (mi_lab h f 3) h w (40 : Int32) T := by
      rw [mf_Model_emitSides_b126, if_pos hin, mi_tn (by omega), q57]; rfl
    rw [b126]
    by_cases c3 : e = 3
    · rw [if_pos (show nI e = (3 : Int32) from by rw [c3]; rfl)]
      by_cases c1 : x12 = 1
      · rw [if_pos c1, hjn, if_pos ⟨c3, c1⟩]
        exact b132 T c' F' 0 hk hT
      · rw [if_neg c1, hjn, if_neg (fun hh => c1 hh.2)]
        exact b132 T c' F' 3 hk hT
    · rw [if_neg (show ¬ nI e = (3 : Int32) from mi_neT (b := 3) (by omega) (by omega) c3), hjn, if_neg (fun hh => c3 hh.1)]
      exact b132 T c' F' 3 hk hT
  rw [mf_Model_emitSides_b78, List.append_assoc, List.append_assoc]
  refine mi_em_b (mi_em_p (N := N) (R := R) h f hs ld hld (nL p) (nL p) (mi_nmask hp) (by omega)) (fun T hk hT => ?_)
  by_cases c11 : k = 11
  · rw [if_pos c11] at hx9 ⊢
    rw [hx9, if_neg (by decide)]
    rw [hx9] at b94
    refine mi_em_b (mi_em_p (N := N) (R := R) h f hT 26 (by omega) m m (mi_u_maskid hm) (by omega)) (fun U hk2 hU => ?_)
    exact b94 U _ _ (mi_km_tr hk hk2) hU
  · rw [if_neg c11] at hx9 ⊢
    rw [hx9, if_pos rfl, List.nil_append]
    rw [hx9] at b94
    exact b94 T _ _ hk hT
theorem mt_m_sides (hN : 5 ≤ N) {t : mw_T} {c : Nat} {F : Bool} (h f : Int32) (hs : mi_sM t c F) (i k e ld p q n bits : Nat) (m : Int64) (hm : k = 11 → m = mq_mask bits) (hmu : mi_u m) (hi : i < 170) (hk : k = 10 ∨ k = 11 ∨ k = 12) (he : e = 1 ∨ e = 2 ∨ e = 3) (hn : n < 4294967296) (hld : ld < 100) (hld2 : ld ≠ 9 ∧ ld ≠ 10 ∧ ld ≠ 11) (hp : p < 1000) (hq : q < 1000)
    (h51 : t.1 51 i = nI k) (h52 : t.1 52 i = nI e) (h58 : t.2.1 58 i = nL n) (h56 : t.1 56 i = h) (h57 : t.1 57 i = f) : mi_em t c F h f (mt_gEs k ld p q e (nL n) (mq_nm k bits)) (mf_Model_emitSides N R (nI i) (nI ld) (nL p) (nL q) m t) := by
  have hin : mj_in (nI i) 170 = true := mi_inT (by omega) hi
  have hmu2 : mi_u (mq_nm k bits) := by unfold mq_nm; split; exact mi_u_mask _; exact mi_u_nL (n := 4294967295) (by omega)
  have hwu : mi_u (nL n &&& mq_nm k bits) := mi_u_and (mi_u_nL hn) hmu2
  obtain ⟨g, rfl⟩ : ∃ g, N = g + 1 + 1 + 1 := ⟨N - 3, by omega⟩
  -- the loop
  have loop : ∀ x9 : Int32, x9 = (if k = 11 then 1 else 0) → (k = 11 → m = mq_nm k bits) → mi_em t c F h f (mt_gEs k ld p q e (nL n) (mq_nm k bits)) (mf_Model_emitSides_l46 (g + 1 + 1 + 1) R (g + 1 + 1 + 1) (nI i) (nI ld) (nL p) (nL q) m x9 (nL n &&& mq_nm k bits) (1 : Int32) t) := by
    intro x9 hx9 hmk
    have mk : (if k = 11 then [(26, 0, 0, mq_nm k bits)] else [] : mi_P) = (if k = 11 then [(26, 0, 0, m)] else []) := by
      by_cases c11 : k = 11
      · rw [if_pos c11, if_pos c11, ← hmk c11]
      · rw [if_neg c11, if_neg c11]
    have third : ∀ T c' F', mi_km t T → mi_sM T c' F' → mi_em T c' F' h f [] (mf_Model_emitSides_l46 (g + 1 + 1 + 1) R (g + 1) (nI i) (nI ld) (nL p) (nL q) m x9 (nL n &&& mq_nm k bits) (nI 3) T) := by
      intro T c' F' hk' hT
      rw [me_Model_emitSides_l46, mf_Model_emitSides_l46B, if_neg (show ¬ nI 3 < (3 : Int32) by decide)]
      exact mi_em_0 hT
    have second : ∀ T c' F', mi_km t T → mi_sM T c' F' → mi_em T c' F' h f (if e = 1 then [] else mt_gE k ld q 3 (nL n) (mq_nm k bits)) (mf_Model_emitSides_l46 (g + 1 + 1 + 1) R (g + 1 + 1) (nI i) (nI ld) (nL p) (nL q) m x9 (nL n &&& mq_nm k bits) (nI 2) T) := by
      intro T c' F' hk' hT
      have q52 : T.1 52 i = nI e := ((hk' 52 (by omega) i).1).trans h52
      rw [me_Model_emitSides_l46, mf_Model_emitSides_l46B, if_pos (show nI 2 < (3 : Int32) by decide), if_pos hin, mi_tn (by omega), q52]
      by_cases c1 : e = 1
      · subst c1
        rw [if_pos (show nI 1 &&& nI 2 = 0 by decide), if_pos rfl, mf_Model_emitSides_b135, mi_l1, mi_add]
        exact third T c' F' hk' hT
      · rw [if_neg (show ¬ nI e &&& nI 2 = 0 by rcases he with rfl | rfl | rfl <;> first | omega | decide), if_neg c1, if_neg (show ¬ nI 2 = (1 : Int32) by decide)]
        have := mt_m_side (N := g + 1 + 1 + 1) (R := R) h f hT i k e ld q 3 (nI 2) (nL n &&& mq_nm k bits) m hmu hwu hi hld hld2 (by omega) [] (mf_Model_emitSides_l46 (g + 1 + 1 + 1) R (g + 1)) (nL p) (nL q) x9 hx9 q52 he (((hk' 56 (by omega) i).1).trans h56) (((hk' 57 (by omega) i).1).trans h57) (by rw [if_neg (fun hh => absurd hh.2 (by decide))]) (fun U c2 F2 hk2 hU => by
          rw [mi_l1, mi_add]
          exact third U c2 F2 (mi_km_tr hk' hk2) hU)
        rw [List.append_nil, ← mk] at this
        exact this
    rw [me_Model_emitSides_l46, mf_Model_emitSides_l46B, if_pos (by decide), if_pos hin, mi_tn (by omega), h52, mt_gEs]
    by_cases c2 : e = 2
    · subst c2
      rw [if_pos (show nI 2 &&& (1 : Int32) = 0 by decide), if_neg (by decide), if_pos rfl, mf_Model_emitSides_b135, mi_l1, show (1 : Int32) = nI 1 from rfl, mi_add]
      exact second t c F (mi_km_rf t) hs
    · rw [if_neg (show ¬ nI e &&& (1 : Int32) = 0 by rcases he with rfl | rfl | rfl <;> first | omega | decide), if_pos rfl]
      have := mt_m_side (N := g + 1 + 1 + 1) (R := R) h f hs i k e ld p (if e = 3 then 0 else 3) 1 (nL n &&& mq_nm k bits) m hmu hwu hi hld hld2 (by omega) (if e = 1 then [] else mt_gE k ld q 3 (nL n) (mq_nm k bits)) (mf_Model_emitSides_l46 (g + 1 + 1 + 1) R (g + 1 + 1)) (nL p) (nL q) x9 hx9 h52 he h56 h57 (by by_cases c3 : e = 3 <;> simp [c3]) (fun U c2 F2 hk2 hU => by
          rw [mi_l1, show (1 : Int32) = nI 1 from rfl, mi_add]
          exact second U c2 F2 hk2 hU)
      rw [← mk] at this
      rcases he with rfl | rfl | rfl
      · rw [if_neg (show ¬ (1 : Nat) = 3 by decide), if_pos (show (1 : Nat) = 1 from rfl), List.append_nil] at this
        rw [if_pos rfl]
        exact this
      · exact absurd rfl c2
      · rw [if_pos (show (3 : Nat) = 3 from rfl), if_neg (show ¬ (3 : Nat) = 1 by decide)] at this
        rw [if_neg (by decide), if_neg (by decide)]
        exact this
  rw [mf_Model_emitSides, if_pos hin, mi_tn (by omega), h51]
  by_cases c11 : k = 11
  · subst c11
    rw [if_pos (show nI 11 = (11 : Int32) from rfl), mf_Model_emitSides_b16, if_neg (by decide), if_pos hin, mi_tn (by omega), h58, mf_Model_emitSides_b41]
    have := loop 1 (by rw [if_pos rfl]) (fun _ => hm rfl)
    rw [show nL n &&& m = nL n &&& mq_nm 11 bits from by rw [hm rfl]; rfl]
    exact this
  · rw [if_neg (show ¬ nI k = (11 : Int32) from mi_neT (b := 11) (by omega) (by omega) c11), mf_Model_emitSides_b16, if_pos rfl, if_pos hin, mi_tn (by omega), h58, mf_Model_emitSides_b41]
    have := loop 0 (by rw [if_neg c11]) (fun hh => absurd hh c11)
    rw [show nL n &&& mq_nm k bits = nL n from by unfold mq_nm; rw [if_neg c11, mi_nmask hn]] at this
    exact this
theorem mt_m_port (hN : 5 ≤ N) {t : mw_T} {c : Nat} {F : Bool} (h f : Int32) (hs : mi_sM t c F) (i e n bits : Nat) (hi : i < 170) (he : e = 1 ∨ e = 2 ∨ e = 3) (hn : n < 4294967296) (h51 : t.1 51 i = nI 12) (h52 : t.1 52 i = nI e) (h58 : t.2.1 58 i = nL n) (h56 : t.1 56 i = h) (h57 : t.1 57 i = f) :
    mi_em t c F h f (mt_gP 1 0 ++ ([(2, 0, 0, nL 23)] ++ ([(40, 1, 0, nL 6)] ++ ([(40, 0, 3, nL 17)] ++ (mt_gW ++ ([(8, 0, 0, nL 14)] ++ mt_gEs 12 6 14 16 e (nL n) (mq_nm 12 bits))))))) (mf_Model_emitPort N R (nI i) t) := by
  have hin : mj_in (nI i) 170 = true := mi_inT (by omega) hi
  rw [mf_Model_emitPort, if_pos hin, mi_tn (by omega), h57]
  refine mi_em_b (mt_m_ip (N := N) (R := R) h f hs) (fun T1 k1 s1 => ?_)
  refine mi_em_b (mi_em_p (N := N) (R := R) h f s1 2 (by omega) (nL 23) (nL 23) (mi_nmask (by omega)) (by omega)) (fun T2 k2 s2 => ?_)
  refine mi_em_b (mi_em_1 (N := N) (R := R) h f s2 40 (by omega) 1 0 (nL 6) (nL 6) (mi_nmask (by omega)) (by omega)) (fun T3 k3 s3 => ?_)
  have kk3 := mi_km_tr k1 (mi_km_tr k2 k3)
  rw [if_pos hin, (kk3 57 (by omega) i).1, h57]
  refine mi_em_b (mi_em_1 (N := N) (R := R) h f s3 40 (by omega) 0 3 (nL 17) (nL 17) (mi_nmask (by omega)) (by omega)) (fun T4 k4 s4 => ?_)
  have kk4 := mi_km_tr kk3 k4
  rw [if_pos hin, (kk4 57 (by omega) i).1, h57]
  refine mi_em_b (mt_m_whole (N := N) (R := R) h f s4) (fun T5 k5 s5 => ?_)
  refine mi_em_b (mi_em_p (N := N) (R := R) h f s5 8 (by omega) (nL 14) (nL 14) (mi_nmask (by omega)) (by omega)) (fun T6 k6 s6 => ?_)
  have kk6 := mi_km_tr kk4 (mi_km_tr k5 k6)
  rw [mi_bid]
  exact mt_m_sides hN h f s6 i 12 e 6 14 16 n bits (nL 0) (fun hh => by omega) (mi_u_nL (by omega)) hi (by omega) he hn (by omega) (by omega) (by omega) (by omega) (((kk6 51 (by omega) i).1).trans h51) (((kk6 52 (by omega) i).1).trans h52) (((kk6 58 (by omega) i).2).trans h58) (((kk6 56 (by omega) i).1).trans h56) (((kk6 57 (by omega) i).1).trans h57)
end
