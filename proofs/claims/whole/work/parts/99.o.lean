/-! THE REFERENCE's addresses, primitives, strengths -/
def mk_pq (b2 b3 : Bool) (a : Nat) (L : mk_L) : Option (mt_T × mk_L) :=
  (if b2 || b3 then mk_addr L else mk_num 65535 L).bind fun v => if b3 then (mk_ex 47 v.2).bind fun L1 => (mk_num 32 L1).bind fun b => some (mt_nd (if b2 then 10 else if b3 then 11 else 12) a v.1 b.1 mt_0 mt_0, b.2) else some (mt_nd (if b2 then 10 else if b3 then 11 else 12) a v.1 0 mt_0 mt_0, v.2)
theorem mk_prim_pq (a : Nat) (L : mk_L) : mk_prim a L = if mk_hd L = 10 then mk_pq true false a L.tail else if mk_hd L = 11 then mk_pq false true a L.tail else if mk_hd L = 12 then mk_pq false false a L.tail else none := rfl
def mn_stf (a : Int32) (b : Int64) : Int32 := if a = 1 then (if b = 29295 then 1 else if b = 6581857 then 2 else 0) else if a = 3 then (if b = 61 then 4 else if b = 15649 then 4 else if b = 60 then 4 else if b = 62 then 4 else if b = 15676 then 4 else if b = 15678 then 4 else if b = 124 then 5 else if b = 38 then 6 else if b = 15420 then 7 else if b = 15934 then 7 else if b = 43 then 8 else if b = 45 then 8 else if b = 42 then 9 else if b = 47 then 9 else 0) else 0
def mn_nof (b : Int64) : Int32 := if b.toInt32 = 38 then 6 else if b.toInt32 = 42 then 2 else if b.toInt32 = 43 then 0 else if b.toInt32 = 45 then 1 else if b.toInt32 = 47 then 3 else if b.toInt32 = 60 then 13 else if b.toInt32 = 61 then 8 else if b.toInt32 = 62 then 10 else if b.toInt32 = 124 then 7 else if b.toInt32 = 15420 then 4 else if b.toInt32 = 15649 then 9 else if b.toInt32 = 15676 then 11 else if b.toInt32 = 15678 then 12 else if b.toInt32 = 15934 then 5 else 0
theorem mn_st_w : ∀ k, k < 16 → k ≠ 2 → k ≠ 1 → mn_stf (nI (mn_c k)) (nL (mn_v k 0)) = nI (mm_str k) := by decide +kernel
theorem mn_st_s : ∀ k, k < 127 → 15 < k → mn_stf (nI (mn_c k)) (nL (mn_v k 0)) = nI (mm_str k) ∧ (2 < mm_str k → mn_nof (nL (mn_v k 0)) = nI (mm_no k)) := by decide +kernel
theorem mn_st_t : ∀ k ∈ [8509, 15421, 15933, 15420, 15934], mn_stf (nI (mn_c k)) (nL (mn_v k 0)) = nI (mm_str k) ∧ (2 < mm_str k → mn_nof (nL (mn_v k 0)) = nI (mm_no k)) := by decide +kernel
theorem mn_v_0 {k : Nat} (v : Nat) (h : k ≠ 1) : mn_v k v = mn_v k 0 := by
  unfold mn_v
  rw [if_neg h, if_neg h]
section
variable {N R : Nat}
theorem mn_strength {t : mw_T} {k v : Nat} (h : mn_cd t k v) : mf_Model_strength N R t = some (.inl (nI (mm_str k)), t) := by
  have e : mf_Model_strength N R t = some (.inl (mn_stf (t.1 49 4) (t.2.1 49 6)), t) := by
    rw [mf_Model_strength]
    simp only [mi_ite]
    rfl
  obtain ⟨h1, hv, h4, h6, h2⟩ := h
  rw [e, h4]
  congr 3
  by_cases g1 : k = 1
  · subst g1; rfl
  by_cases g2 : k = 2
  · subst g2
    have a1 : t.2.1 49 6 ≠ 29295 := h2 rfl 11 (by omega)
    have a2 : t.2.1 49 6 ≠ 6581857 := h2 rfl 10 (by omega)
    rw [mn_stf, if_pos (show nI (mn_c 2) = 1 from rfl), if_neg a1, if_neg a2]; rfl
  rw [h6 g2, mn_v_0 v g1]
  by_cases g3 : k < 16
  · exact mn_st_w k g3 g2 g1
  rcases h1 with g | g
  · exact (mn_st_s k (by omega) (by omega)).1
  · exact (mn_st_t k (by
      rcases g with rfl | rfl | rfl | rfl | rfl <;> decide)).1
theorem mn_numberOf {t : mw_T} {k v : Nat} (h : mn_cd t k v) (hs : 2 < mm_str k) : mf_Model_numberOf N R t = some (.inl (nI (mm_no k)), t) := by
  have e : mf_Model_numberOf N R t = some (.inl (mn_nof (t.2.1 49 6)), t) := by
    rw [mf_Model_numberOf]
    simp only [mi_ite]
    rfl
  obtain ⟨h1, hv, h4, h6, h2⟩ := h
  rw [e]
  congr 3
  have lo : ∀ k, k < 16 → mm_str k ≤ 2 := by decide +kernel
  by_cases g3 : k < 16
  · have := lo k g3; omega
  rw [h6 (by omega), mn_v_0 v (by omega)]
  rcases h1 with g | g
  · exact (mn_st_s k (by omega) (by omega)).2 hs
  · exact (mn_st_t k (by
      rcases g with rfl | rfl | rfl | rfl | rfl <;> decide)).2 hs
theorem mn_protocol {t : mw_T} {k v : Nat} (h : mn_cd t k v) : mf_Model_protocol N R t = some (.inl (if mk_pr k = 9 then (-1 : Int32) else nI (mk_pr k)), t) := by
  rw [mf_Model_protocol, show (491327616101 : Int64) = nL (mn_w 3) from rfl, mn_isWord h (show 3 < 13 by omega), mi_b]
  unfold mk_pr
  by_cases g : k = 6
  · subst g
    rfl
  rw [decide_eq_false (show ¬ k = 3 + 3 from g), if_pos (show mj_b2 false = 0 from rfl), show (28777 : Int64) = nL (mn_w 0) from rfl, mn_isWord h (show 0 < 13 by omega), mi_b]
  by_cases g0 : k = 3
  · subst g0
    rfl
  rw [decide_eq_false (show ¬ k = 0 + 3 from g0), if_pos (show mj_b2 false = 0 from rfl), show (7365492 : Int64) = nL (mn_w 1) from rfl, mn_isWord h (show 1 < 13 by omega), mi_b]
  by_cases g1 : k = 4
  · subst g1
    rfl
  rw [decide_eq_false (show ¬ k = 1 + 3 from g1), if_pos (show mj_b2 false = 0 from rfl), show (7365749 : Int64) = nL (mn_w 2) from rfl, mn_isWord h (show 2 < 13 by omega), mi_b]
  by_cases g2 : k = 5
  · subst g2
    rfl
  rw [decide_eq_false (show ¬ k = 2 + 3 from g2), if_pos (show mj_b2 false = 0 from rfl), if_neg g, if_neg g0, if_neg g1, if_neg g2]
  rfl
theorem mn_address (hN : 200 ≤ N) {S : List Nat} {t : mw_T} {r : Option mk_L} (h : mn_A S t r) : ∃ v T, mf_Model_address N R t = some (.inl v, T) ∧ mn_fr t T ∧ mn_A S T ((r.bind mk_addr).map (·.2)) ∧ (∀ y, r.bind mk_addr = some y → v = nL y.1) := by
  obtain ⟨M, rfl⟩ : ∃ k, N = k + 5 := ⟨N - 5, by omega⟩
  obtain ⟨v1, T1, a1, f1, A1, e1⟩ := mn_needNumber (N := M + 5) (R := R) hN h (hi := 255) (by omega)
  obtain ⟨U1, b1, g1, B1⟩ := mn_need (N := M + 5) (R := R) hN A1 (c := 46) (by omega) (Or.inl (by omega))
  obtain ⟨v2, T2, a2, f2, A2, e2⟩ := mn_needNumber (N := M + 5) (R := R) hN B1 (hi := 255) (by omega)
  obtain ⟨U2, b2, g2, B2⟩ := mn_need (N := M + 5) (R := R) hN A2 (c := 46) (by omega) (Or.inl (by omega))
  obtain ⟨v3, T3, a3, f3, A3, e3⟩ := mn_needNumber (N := M + 5) (R := R) hN B2 (hi := 255) (by omega)
  obtain ⟨U3, b3, g3, B3⟩ := mn_need (N := M + 5) (R := R) hN A3 (c := 46) (by omega) (Or.inl (by omega))
  obtain ⟨v4, T4, a4, f4, A4, e4⟩ := mn_needNumber (N := M + 5) (R := R) hN B3 (hi := 255) (by omega)
  have s0 : mf_Model_address (M + 5) R t = some (.inl ((((0 * 256 + v1) * 256 + v2) * 256 + v3) * 256 + v4), T4) := by
    rw [mf_Model_address, me_Model_address_l4, mf_Model_address_l4B, if_pos (by decide), if_neg (by decide), mf_Model_address_b20, show (255 : Int64) = nL 255 from rfl, a1, mi_b]
    rw [me_Model_address_l4, mf_Model_address_l4B, if_pos (by decide), if_pos (by decide), show (46 : Int64) = nL (mn_v 46 0) from rfl, b1, mi_b, mf_Model_address_b20, show (255 : Int64) = nL 255 from rfl, a2, mi_b]
    rw [me_Model_address_l4, mf_Model_address_l4B, if_pos (by decide), if_pos (by decide), show (46 : Int64) = nL (mn_v 46 0) from rfl, b2, mi_b, mf_Model_address_b20, show (255 : Int64) = nL 255 from rfl, a3, mi_b]
    rw [me_Model_address_l4, mf_Model_address_l4B, if_pos (by decide), if_pos (by decide), show (46 : Int64) = nL (mn_v 46 0) from rfl, b3, mi_b, mf_Model_address_b20, show (255 : Int64) = nL 255 from rfl, a4, mi_b]
    rw [me_Model_address_l4, mf_Model_address_l4B, if_neg (by decide)]
  refine ⟨_, T4, s0, mn_fr_tr f1 (mn_fr_tr g1 (mn_fr_tr f2 (mn_fr_tr g2 (mn_fr_tr f3 (mn_fr_tr g3 f4))))), ?_, ?_⟩
  · have e : (r.bind mk_addr).map (·.2) = ((((((((r.bind (mk_num 255)).map (·.2)).bind (mk_ex 46)).bind (mk_num 255)).map (·.2)).bind (mk_ex 46)).bind (mk_num 255)).map (·.2) |>.bind (mk_ex 46) |>.bind (mk_num 255)).map (·.2) := by
      cases r with
      | none => rfl
      | some L =>
        simp only [Option.bind_some]
        unfold mk_addr
        cases mk_num 255 L with
        | none => rfl
        | some x1 =>
          simp only [Option.bind_some, Option.map_some]
          cases mk_ex 46 x1.2 with
          | none => rfl
          | some y1 =>
            simp only [Option.bind_some, Option.map_some]
            cases mk_num 255 y1 with
            | none => rfl
            | some x2 =>
              simp only [Option.bind_some, Option.map_some]
              cases mk_ex 46 x2.2 with
              | none => rfl
              | some y2 =>
                simp only [Option.bind_some, Option.map_some]
                cases mk_num 255 y2 with
                | none => rfl
                | some x3 =>
                  simp only [Option.bind_some, Option.map_some]
                  cases mk_ex 46 x3.2 with
                  | none => rfl
                  | some y3 =>
                    simp only [Option.bind_some, Option.map_some]
                    cases mk_num 255 y3 with
                    | none => rfl
                    | some x4 => rfl
    rw [e]; exact A4
  · intro y hy
    cases r with
    | none => cases hy
    | some L =>
      simp only [Option.bind_some] at hy e1 e2 e3 e4
      unfold mk_addr at hy
      cases h1 : mk_num 255 L with
      | none => rw [h1] at hy; cases hy
      | some x1 =>
        rw [h1] at hy e1 e2 e3 e4
        simp only [Option.bind_some, Option.map_some] at hy e2 e3 e4
        cases h2 : mk_ex 46 x1.2 with
        | none => rw [h2] at hy; cases hy
        | some y1 =>
          rw [h2] at hy e2 e3 e4
          simp only [Option.bind_some, Option.map_some] at hy e2 e3 e4
          cases h3 : mk_num 255 y1 with
          | none => rw [h3] at hy; cases hy
          | some x2 =>
            rw [h3] at hy e2 e3 e4
            simp only [Option.bind_some, Option.map_some] at hy e3 e4
            cases h4 : mk_ex 46 x2.2 with
            | none => rw [h4] at hy; cases hy
            | some y2 =>
              rw [h4] at hy e3 e4
              simp only [Option.bind_some, Option.map_some] at hy e3 e4
              cases h5 : mk_num 255 y2 with
              | none => rw [h5] at hy; cases hy
              | some x3 =>
                rw [h5] at hy e3 e4
                simp only [Option.bind_some, Option.map_some] at hy e4
                cases h6 : mk_ex 46 x3.2 with
                | none => rw [h6] at hy; cases hy
                | some y3 =>
                  rw [h6] at hy e4
                  simp only [Option.bind_some, Option.map_some] at hy e4
                  cases h7 : mk_num 255 y3 with
                  | none => rw [h7] at hy; cases hy
                  | some x4 =>
                    rw [h7] at hy e4
                    simp only [Option.bind_some, Option.some.injEq] at hy
                    subst hy
                    rw [e1 x1 rfl, e2 x2 rfl, e3 x3 rfl, e4 x4 rfl, show (0 : Int64) * 256 = nL 0 from rfl, mi_addL, show (256 : Int64) = nL 256 from rfl, mi_mulL, mi_addL, mi_mulL, mi_addL, mi_mulL, mi_addL, Nat.zero_add]
/-- a primitive's end: a node -/
def mn_P (N R : Nat) (S : List Nat) (a : Nat) (t : mw_T) (X : mw_X Unit) (r : Option (mt_T × mk_L)) : Prop := ∃ u y0 x4 x6, X = mw_b (mf_Model_node N R y0 (nI a) (-1) x6 x4 u) (fun _ t9 => (some (.inl (), t9))) ∧ mn_fr t u ∧ mn_A S u (r.map (·.2)) ∧ (∀ y, r = some y → ∃ k n m, y.1 = mt_nd k a n m mt_0 mt_0 ∧ (k = 10 ∨ k = 11 ∨ k = 12) ∧ n < 4294967296 ∧ y0 = nI k ∧ x4 = nL n ∧ x6 = nI m)
theorem mn_pq (hN : 200 ≤ N) {S : List Nat} {t : mw_T} {r : Option mk_L} (h : mn_A S t r) (a : Nat) (b2 b3 : Bool) : mn_P N R S a t (if mj_b2 b2 = 0 then (if mj_b2 b3 = 0 then (mw_b (mf_Model_needNumber N R (65535 : Int64) t) (fun v5 t5 => (mf_Model_primitive_b76 N R (nI a) (mj_b2 b2) (mj_b2 b3) v5 t5))) else (mf_Model_primitive_b62 N R (nI a) (mj_b2 b2) (mj_b2 b3) t)) else (mf_Model_primitive_b62 N R (nI a) (mj_b2 b2) (mj_b2 b3) t)) (r.bind (mk_pq b2 b3 a)) := by
  -- the number
  have st : ∃ v T, (if mj_b2 b2 = 0 then (if mj_b2 b3 = 0 then (mw_b (mf_Model_needNumber N R (65535 : Int64) t) (fun v5 t5 => (mf_Model_primitive_b76 N R (nI a) (mj_b2 b2) (mj_b2 b3) v5 t5))) else (mf_Model_primitive_b62 N R (nI a) (mj_b2 b2) (mj_b2 b3) t)) else (mf_Model_primitive_b62 N R (nI a) (mj_b2 b2) (mj_b2 b3) t)) = mf_Model_primitive_b76 N R (nI a) (mj_b2 b2) (mj_b2 b3) v T ∧ mn_fr t T ∧ mn_A S T ((r.bind (fun L => if b2 || b3 then mk_addr L else mk_num 65535 L)).map (·.2)) ∧ (∀ y, r.bind (fun L => if b2 || b3 then mk_addr L else mk_num 65535 L) = some y → v = nL y.1 ∧ y.1 < 4294967296) := by
    have lt1 : ∀ {hi : Nat} {L : mk_L} {y : Nat × mk_L}, mk_num hi L = some y → y.1 ≤ hi := by
      intro hi L y hy
      rw [mk_num] at hy
      by_cases g : mk_hd L = 1 ∧ mk_hv L ≤ hi
      · rw [if_pos g] at hy; cases hy; exact g.2
      · rw [if_neg g] at hy; cases hy
    have lt2 : ∀ {L : mk_L} {y : Nat × mk_L}, mk_addr L = some y → y.1 < 4294967296 := by
      intro L y hy
      unfold mk_addr at hy
      cases h1 : mk_num 255 L with
      | none => rw [h1] at hy; cases hy
      | some x1 =>
        have l1 := lt1 h1
        rw [h1, Option.bind_some] at hy
        cases h2 : mk_ex 46 x1.2 with
        | none => rw [h2] at hy; cases hy
        | some y1 =>
          rw [h2, Option.bind_some] at hy
          cases h3 : mk_num 255 y1 with
          | none => rw [h3] at hy; cases hy
          | some x2 =>
            have l2 := lt1 h3
            rw [h3, Option.bind_some] at hy
            cases h4 : mk_ex 46 x2.2 with
            | none => rw [h4] at hy; cases hy
            | some y2 =>
              rw [h4, Option.bind_some] at hy
              cases h5 : mk_num 255 y2 with
              | none => rw [h5] at hy; cases hy
              | some x3 =>
                have l3 := lt1 h5
                rw [h5, Option.bind_some] at hy
                cases h6 : mk_ex 46 x3.2 with
                | none => rw [h6] at hy; cases hy
                | some y3 =>
                  rw [h6, Option.bind_some] at hy
                  cases h7 : mk_num 255 y3 with
                  | none => rw [h7] at hy; cases hy
                  | some x4 =>
                    have l4 := lt1 h7
                    rw [h7, Option.bind_some] at hy
                    cases hy
                    simp only
                    omega
    have ad : ∃ v T, mf_Model_primitive_b62 N R (nI a) (mj_b2 b2) (mj_b2 b3) t = mf_Model_primitive_b76 N R (nI a) (mj_b2 b2) (mj_b2 b3) v T ∧ mn_fr t T ∧ mn_A S T ((r.bind mk_addr).map (·.2)) ∧ (∀ y, r.bind mk_addr = some y → v = nL y.1 ∧ y.1 < 4294967296) := by
      obtain ⟨v, T, a1, a2, a3, a4⟩ := mn_address (N := N) (R := R) hN h
      rw [mf_Model_primitive_b62, a1, mi_b]
      refine ⟨v, T, rfl, a2, a3, fun y hy => ⟨a4 y hy, ?_⟩⟩
      cases r with
      | none => cases hy
      | some L => exact lt2 hy
    cases b2 with
    | true => rw [if_neg (show ¬ mj_b2 true = 0 by decide)]; exact ad
    | false =>
      rw [if_pos (show mj_b2 false = 0 from rfl)]
      cases b3 with
      | true => rw [if_neg (show ¬ mj_b2 true = 0 by decide)]; exact ad
      | false =>
        rw [if_pos (show mj_b2 false = 0 from rfl)]
        obtain ⟨v, T, a1, a2, a3, a4⟩ := mn_needNumber (N := N) (R := R) hN h (hi := 65535) (by omega)
        rw [show (65535 : Int64) = nL 65535 from rfl, a1, mi_b]
        refine ⟨v, T, rfl, a2, a3, fun y hy => ⟨a4 y hy, ?_⟩⟩
        cases r with
        | none => cases hy
        | some L => have := lt1 hy; omega
  obtain ⟨v, T, s1, s2, s3, s4⟩ := st
  rw [s1]
  have e0 : r.bind (mk_pq b2 b3 a) = (r.bind (fun L => if b2 || b3 then mk_addr L else mk_num 65535 L)).bind fun v => if b3 then (mk_ex 47 v.2).bind fun L1 => (mk_num 32 L1).bind fun b => some (mt_nd (if b2 then 10 else if b3 then 11 else 12) a v.1 b.1 mt_0 mt_0, b.2) else some (mt_nd (if b2 then 10 else if b3 then 11 else 12) a v.1 0 mt_0 mt_0, v.2) := by
    cases r with
    | none => rfl
    | some L => rfl
  rw [e0]
  generalize r.bind (fun L => if b2 || b3 then mk_addr L else mk_num 65535 L) = rv at s3 s4
  have b105 : ∀ (y : Int32) (u : mw_T), mf_Model_primitive_b105 N R (nI a) (mj_b2 b2) (mj_b2 b3) v y u = mw_b (mf_Model_node N R (nI (if b2 then 10 else if b3 then 11 else 12)) (nI a) (-1) y v u) (fun _ t9 => (some (.inl (), t9))) := by
    intro y u
    rw [mf_Model_primitive_b105]
    cases b2 <;> cases b3 <;> rfl
  have hk : (if b2 then 10 else if b3 then 11 else 12) = 10 ∨ (if b2 then 10 else if b3 then 11 else 12) = 11 ∨ (if b2 then 10 else if b3 then 11 else 12) = 12 := by
    cases b2 <;> cases b3 <;> decide
  cases b3 with
  | false =>
    rw [mf_Model_primitive_b76, if_pos (show mj_b2 false = 0 from rfl), mf_Model_primitive_b89, if_pos (show mj_b2 false = 0 from rfl), b105]
    refine ⟨T, _, _, _, rfl, s2, ?_, ?_⟩
    · cases rv with
      | none => exact s3
      | some y => exact s3
    · intro y hy
      cases rv with
      | none => cases hy
      | some z =>
        have := s4 z rfl
        cases hy
        exact ⟨_, _, _, rfl, hk, this.2, rfl, this.1, rfl⟩
  | true =>
    obtain ⟨U, b1, b2', b3'⟩ := mn_need (N := N) (R := R) hN s3 (c := 47) (by omega) (Or.inl (by omega))
    obtain ⟨w, V, c1, c2, c3, c4⟩ := mn_needNumber (N := N) (R := R) hN b3' (hi := 32) (by omega)
    rw [mf_Model_primitive_b76, if_neg (show ¬ mj_b2 true = 0 by decide), show (47 : Int64) = nL (mn_v 47 0) from rfl, b1, mi_b, mf_Model_primitive_b89, if_neg (show ¬ mj_b2 true = 0 by decide), show (32 : Int64) = nL 32 from rfl, c1, mi_b, b105]
    refine ⟨V, _, _, _, rfl, mn_fr_tr s2 (mn_fr_tr b2' c2), ?_, ?_⟩
    · cases rv with
      | none => exact c3
      | some z =>
        simp only [Option.bind_some, Option.map_some, if_true] at c3 ⊢
        cases hz : mk_ex 47 z.2 with
        | none => rw [hz] at c3; exact c3
        | some L1 =>
          rw [hz] at c3
          simp only [Option.bind_some] at c3 ⊢
          cases hz2 : mk_num 32 L1 with
          | none => rw [hz2] at c3; exact c3
          | some b => rw [hz2] at c3; exact c3
    · intro y hy
      cases rv with
      | none => cases hy
      | some z =>
        have z4 := s4 z rfl
        simp only [Option.bind_some, Option.map_some, if_true] at c4 hy
        cases hz : mk_ex 47 z.2 with
        | none => rw [hz] at hy; cases hy
        | some L1 =>
          rw [hz] at c4 hy
          simp only [Option.bind_some] at c4 hy
          cases hz2 : mk_num 32 L1 with
          | none => rw [hz2] at hy; cases hy
          | some b =>
            rw [hz2] at c4 hy
            have c5 := c4 b rfl
            simp only [Option.bind_some, Option.some.injEq] at hy
            subst hy
            exact ⟨_, _, _, rfl, hk, z4.2, rfl, z4.1, by rw [c5, mi_LI]⟩
theorem mn_prim (hN : 200 ≤ N) {S : List Nat} {t : mw_T} {r : Option mk_L} (h : mn_A S t r) (a : Nat) : mn_P N R S a t (mf_Model_primitive N R (nI a) t) (r.bind (mk_prim a)) := by
  have bad : r.bind (mk_prim a) = none → ∀ b2 b3 : Bool, mn_P N R S a t (mf_Model_primitive_b42 N R (nI a) (mj_b2 b2) (mj_b2 b3) t) (r.bind (mk_prim a)) := by
    intro e b2 b3
    obtain ⟨T, a1, a2, a3⟩ := mn_A_take (N := N) (R := R) hN (mn_A_w1 h) (fun _ L e => by cases e)
    rw [mf_Model_primitive_b42, mf_Model_primitive_b47, if_pos (Or.inr rfl), a1, mi_b, e]
    obtain ⟨u, y0, x4, x6, p1, p2, p3, p4⟩ := mn_pq (N := N) (R := R) hN a3 a b2 b3
    exact ⟨u, y0, x4, x6, p1, mn_fr_tr (mn_fr_wi t 7 1 (by omega)) (mn_fr_tr a2 p2), p3, fun y hy => by cases hy⟩
  by_cases h7 : t.1 49 7 = 0
  · obtain ⟨L, rfl, hw, hcd⟩ := mn_A_70 h h7
    rw [mf_Model_primitive, show (1953722216 : Int64) = nL (mn_w 7) from rfl, mn_isWord hcd (show 7 < 13 by omega), mi_b, show (7628142 : Int64) = nL (mn_w 8) from rfl, mn_isWord hcd (show 8 < 13 by omega), mi_b, if_pos h7]
    rw [Option.bind_some] at bad ⊢
    have good : ∀ b2 b3 : Bool, mk_hd L ≠ 2 → mn_P N R S a t (mf_Model_primitive_b46 N R (nI a) (mj_b2 b2) (mj_b2 b3) t) (mk_pq b2 b3 a L.tail) := by
      intro b2 b3 hne
      obtain ⟨T, a1, a2, a3⟩ := mn_A_take (N := N) (R := R) hN (mn_A_w0 h h7) (fun _ L' e => by cases e; exact hne)
      rw [Option.bind_some, mn_tl, if_neg hne] at a3
      rw [mf_Model_primitive_b46, mf_Model_primitive_b47, if_pos (Or.inl rfl), a1, mi_b]
      obtain ⟨u, y0, x4, x6, p1, p2, p3, p4⟩ := mn_pq (N := N) (R := R) hN a3 a b2 b3
      exact ⟨u, y0, x4, x6, p1, mn_fr_tr (mn_fr_wi t 7 0 (by omega)) (mn_fr_tr a2 p2), p3, p4⟩
    rw [mk_prim_pq] at bad ⊢
    by_cases g1 : mk_hd L = 10
    · rw [if_pos g1] at bad ⊢
      rw [decide_eq_true (show mk_hd L = 7 + 3 from g1), decide_eq_false (show ¬ mk_hd L = 8 + 3 by omega), if_neg (show ¬ mj_b2 true = 0 by decide)]
      exact good true false (by omega)
    rw [if_neg g1] at bad ⊢
    rw [decide_eq_false (show ¬ mk_hd L = 7 + 3 from g1), if_pos (show mj_b2 false = 0 from rfl)]
    by_cases g2 : mk_hd L = 11
    · rw [if_pos g2] at bad ⊢
      rw [decide_eq_true (show mk_hd L = 8 + 3 from g2), if_neg (show ¬ mj_b2 true = 0 by decide)]
      exact good false true (by omega)
    rw [if_neg g2] at bad ⊢
    rw [decide_eq_false (show ¬ mk_hd L = 8 + 3 from g2), if_pos (show mj_b2 false = 0 from rfl), show (1953656688 : Int64) = nL (mn_w 9) from rfl, mn_isWord hcd (show 9 < 13 by omega), mi_b]
    by_cases g3 : mk_hd L = 12
    · rw [if_pos g3] at bad ⊢
      rw [decide_eq_true (show mk_hd L = 9 + 3 from g3), if_neg (show ¬ mj_b2 true = 0 by decide)]
      exact good false false (by omega)
    rw [if_neg g3] at bad ⊢
    rw [decide_eq_false (show ¬ mk_hd L = 9 + 3 from g3), if_pos (show mj_b2 false = 0 from rfl)]
    exact bad rfl false false
  · obtain ⟨_, hb⟩ := mn_A_71 h h7
    obtain ⟨b2, w2⟩ := mn_isWord0 (N := N) (R := R) (1953722216 : Int64) t
    obtain ⟨b3, w3⟩ := mn_isWord0 (N := N) (R := R) (7628142 : Int64) t
    rw [mf_Model_primitive, w2, mi_b, w3, mi_b, if_neg h7]
    refine bad ?_ b2 b3
    cases r with
    | none => rfl
    | some L =>
      have := hb L rfl
      rw [Option.bind_some, mk_prim_pq, if_neg (by omega), if_neg (by omega), if_neg (by omega)]
end
