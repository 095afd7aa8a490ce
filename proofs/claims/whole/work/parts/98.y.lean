/-! THE REFERENCE's compile, once the text has been read -/
theorem mt_RM_cp {t T : mw_T} {e : Nat} (h : mi_cq t T e) : ∀ (X : mt_T) (b : Nat), b + mt_sz X ≤ e → mt_RM 0 t b X → mt_RM 12 T b X := by
  intro X
  induction X using mt_sz.induct with
  | case1 k a n m l r ih1 ih2 =>
    intro b hb hp
    rw [mt_sz] at hb
    rw [mt_RM] at hp ⊢
    obtain ⟨⟨p1, p2, p3, p4, p5, p6, p7, p8⟩, q1, q2⟩ := hp
    obtain ⟨g1, g2⟩ := h (b + mt_sz l + mt_sz r) (by omega)
    refine ⟨⟨(g1 51 (by omega) (by omega)).trans p1, (g1 52 (by omega) (by omega)).trans p2, fun x y => (g1 53 (by omega) (by omega)).trans (p3 x y), fun x => (g1 53 (by omega) (by omega)).trans (p4 x), fun x => (g1 54 (by omega) (by omega)).trans (p5 x), fun x => (g1 54 (by omega) (by omega)).trans (p6 x), (g1 55 (by omega) (by omega)).trans p7, fun x => g2.trans (p8 x)⟩, ih1 b (by omega) q1, ih2 _ (by omega) q2⟩
  | case2 X hX =>
    intro b _ _
    rw [mt_RM]
    · trivial
    · exact hX
theorem mt_LB_cp {t T : mw_T} {e : Nat} (h : mi_cq t T e) : ∀ (X : mt_T) (b : Nat) (x y : Int32), b + mt_sz X ≤ e → mt_LB 0 t b X x y → mt_LB 12 T b X x y := by
  intro X
  induction X using mt_sz.induct with
  | case1 k a n m l r ih1 ih2 =>
    intro b x y hb hp
    rw [mt_sz] at hb
    rw [mt_LB] at hp ⊢
    obtain ⟨p1, p2, p3, p4, p5⟩ := hp
    obtain ⟨g1, _⟩ := h (b + mt_sz l + mt_sz r) (by omega)
    refine ⟨(g1 56 (by omega) (by omega)).trans p1, (g1 57 (by omega) (by omega)).trans p2, fun hk => ⟨ih1 _ _ _ (by omega) (p3 hk).1, ih2 _ _ _ (by omega) (p3 hk).2⟩, fun hk => ⟨ih1 _ _ _ (by omega) (p4 hk).1, ih2 _ _ _ (by omega) (p4 hk).2⟩, fun hk => ih1 _ _ _ (by omega) (p5 hk)⟩
  | case2 X hX =>
    intro b x y _ _
    rw [mt_LB]
    · trivial
    · exact hX
/-- what a compile that fails leaves alone -/
abbrev mi_sFil : List (Nat × Nat) := [(49, 1), (49, 8), (49, 25), (49, 36), (63, 1000), (64, 1000), (65, 1000), (66, 1000), (67, 1000), (68, 1000), (69, 1000), (70, 1000), (76, 1000), (77, 1000), (78, 1000), (79, 1000)]
section
variable {N R : Nat}
theorem mi_cl_fr : ∀ (g : Nat) (x : Int32) (t T : mw_T) (v : Int32 ⊕ Nat), mf_Model_compile_l34 N R g x t = some (v, T) → T.1 49 37 ≠ 0 → mi_ag mi_sFil t T := by
  intro g
  induction g with
  | zero => intro x t T v e; cases e
  | succ g ih =>
    intro x t T v e hT
    rw [me_Model_compile_l34, mf_Model_compile_l34B] at e
    split at e
    · split at e
      · split at e
        · exact ih _ _ _ _ e hT
        · cases h1 : mf_Model_emitLeaf N R x t with
          | none => rw [h1] at e; cases e
          | some y =>
            obtain ⟨y, U⟩ := y
            have ag := mi_agF (o := 0) (S := mi_sFil) (Or.inl rfl) (mg_Model_emitLeaf N R x t) h1 (by decide)
            rw [h1] at e
            cases y with
            | inl y =>
              rw [mi_b] at e
              exact mi_ag_tr ag (ih _ _ _ _ e hT)
            | inr y =>
              rw [mi_bx] at e
              cases e
              exact ag
      · cases e
    · split at e
      · rename_i h37
        exfalso
        apply hT
        cases h1 : mf_Model_takeProgram N R t with
        | none => rw [h1] at e; cases e
        | some y =>
          obtain ⟨y, U⟩ := y
          have ag := mi_agF (o := 0) (S := [(49, 37)]) (Or.inl rfl) (mg_Model_takeProgram N R t) h1 (by decide)
          have : U.1 49 37 = 0 := (mi_agI ag (by simp) 37 (Or.inr rfl)).trans h37
          rw [h1] at e
          cases y with
          | inl y => rw [mi_b] at e; cases e; exact this
          | inr y => rw [mi_bx] at e; cases e; exact this
      · rw [mf_Model_refuse, mi_b] at e
        cases e
        intro y hy i hi
        refine ⟨?_, rfl⟩
        rw [mi_wi]
        by_cases h49 : y.1 = 49
        · rw [if_pos h49, if_neg]
          intro h0
          subst h0
          simp only [mi_sFil, List.mem_cons, List.not_mem_nil, or_false] at hy
          rcases hy with rfl | rfl | rfl | rfl | rfl | rfl | rfl | rfl | rfl | rfl | rfl | rfl | rfl | rfl | rfl | rfl <;> simp_all
        · rw [if_neg h49]
theorem mi_cl_0 : ∀ (g : Nat) (x : Int32) (t T : mw_T) (v : Int32 ⊕ Nat), mf_Model_compile_l34 N R g x t = some (v, T) → T.1 49 37 = 0 → T.1 49 0 = t.1 49 0 := by
  intro g
  induction g with
  | zero => intro x t T v e; cases e
  | succ g ih =>
    intro x t T v e hT
    rw [me_Model_compile_l34, mf_Model_compile_l34B] at e
    split at e
    · split at e
      · split at e
        · exact ih _ _ _ _ e hT
        · cases h1 : mf_Model_emitLeaf N R x t with
          | none => rw [h1] at e; cases e
          | some y =>
            obtain ⟨y, U⟩ := y
            have ag := mi_agF (o := 0) (S := [(49, 0)]) (Or.inl rfl) (mg_Model_emitLeaf N R x t) h1 (by decide)
            have h2 : U.1 49 0 = t.1 49 0 := mi_agI ag (by simp) 0 (Or.inr rfl)
            rw [h1] at e
            cases y with
            | inl y =>
              rw [mi_b] at e
              exact (ih _ _ _ _ e hT).trans h2
            | inr y =>
              rw [mi_bx] at e
              cases e
              exact h2
      · cases e
    · split at e
      · cases h1 : mf_Model_takeProgram N R t with
        | none => rw [h1] at e; cases e
        | some y =>
          obtain ⟨y, U⟩ := y
          have ag := mi_agF (o := 0) (S := [(49, 0)]) (Or.inl rfl) (mg_Model_takeProgram N R t) h1 (by decide)
          have : U.1 49 0 = t.1 49 0 := mi_agI ag (by simp) 0 (Or.inr rfl)
          rw [h1] at e
          cases y with
          | inl y => rw [mi_b] at e; cases e; exact this
          | inr y => rw [mi_bx] at e; cases e; exact this
      · rename_i h37
        rw [mf_Model_refuse, mi_b] at e
        cases e
        exact absurd hT h37
theorem ml_mtail (hN : 1400 ≤ N) {Y : mt_T} (hY : mt_C Y) (hs : mt_sz Y ≤ 160) (hk : mt_kk Y) {t : mw_T} (hR : mt_RM 0 t 0 Y) (h9 : t.1 49 9 = nI (mt_sz Y)) {w : Int64} (hw : t.2.1 49 8 = w) :
    (mi_bd 0 false (mt_gf Y) = true → ∃ T, mw_b (mf_Model_link N R t) (fun _ t3 => (mf_Model_compile_l34 N R N (0 : Int32) (mw_wi (mw_wi t3 49 35 (0 : Int32)) 49 37 (0 : Int32)))) = some (.inl 0, T) ∧ T.1 49 0 = 2 ∧ mi_ag mi_sFil t T) ∧
    (mi_bd 0 false (mt_gf Y) = false → ∃ T, mw_b (mf_Model_link N R t) (fun _ t3 => (mf_Model_compile_l34 N R N (0 : Int32) (mw_wi (mw_wi t3 49 35 (0 : Int32)) 49 37 (0 : Int32)))) = some (.inl (nI ((mt_gf Y).length + 2)), T) ∧ T.1 49 0 = t.1 49 0 ∧ T.1 49 1 = 0 ∧ mi_PrgM (mt_prog Y w) T ∧ T.1 49 25 = nI (mt_sz Y - 1) ∧ mt_RM 12 T 0 Y ∧ mt_LB 12 T 0 Y (-1) (-2)) := by
  have hpos := mt_C_pos hY
  obtain ⟨t3, l1, l2, l3⟩ := mt_link (N := N) (R := R) (by omega) hY hR (by omega) h9
  rw [l1, mi_b]
  have hR3 : mt_RM 0 (mw_wi (mw_wi t3 49 35 (0 : Int32)) 49 37 (0 : Int32)) 0 Y := by
    refine mt_RM_eq (e := mt_sz Y) (fun i _ => ⟨⟨?_, ?_, ?_, ?_, ?_⟩, ?_⟩) Y 0 (by omega) hR
    · exact l2.2.1 _ _ (by omega) (by omega)
    · exact l2.2.1 _ _ (by omega) (by omega)
    · exact l2.2.1 _ _ (by omega) (by omega)
    · exact l2.2.1 _ _ (by omega) (by omega)
    · exact l2.2.1 _ _ (by omega) (by omega)
    · show t3.2.1 _ i = _
      rw [l2.1]
  have h93 : (mw_wi (mw_wi t3 49 35 (0 : Int32)) 49 37 (0 : Int32)).1 49 9 = nI (mt_sz Y) := (l2.2.1 49 9 (by omega) (by omega)).trans h9
  obtain ⟨T, e1, e2, e3, e4⟩ := mt_cp (R := R) hN (mt_sz Y) (by omega) Y hY 0 0 (N - mt_sz Y) false _ hR3 hk (by omega) h93 ⟨rfl, fun _ => ⟨rfl, by omega⟩⟩
  rw [Nat.sub_add_cancel (by omega), Nat.zero_add] at e1
  obtain ⟨g, hg⟩ : ∃ g, N - mt_sz Y = g + 1 := ⟨N - mt_sz Y - 1, by omega⟩
  rw [hg, me_Model_compile_l34, mf_Model_compile_l34B, e2.2.2, h93, if_neg (mi_ltF (by omega) (by omega))] at e1
  rw [Nat.zero_add] at e3
  have l2' : mi_ag mi_sFil t (mw_wi (mw_wi t3 49 35 (0 : Int32)) 49 37 (0 : Int32)) := by
    intro y hy i hi
    refine ⟨?_, by show t3.2.1 y.1 i = _; rw [l2.1]⟩
    simp only [mi_sFil, List.mem_cons, List.not_mem_nil, or_false] at hy
    rw [mi_wi, mi_wi]
    rcases hy with rfl | rfl | rfl | rfl | rfl | rfl | rfl | rfl | rfl | rfl | rfl | rfl | rfl | rfl | rfl | rfl
    · rcases hi with hi | hi
      · cases hi
      · subst hi; exact l2.2.1 49 1 (by omega) (by omega)
    · rcases hi with hi | hi
      · cases hi
      · subst hi; exact l2.2.1 49 8 (by omega) (by omega)
    · rcases hi with hi | hi
      · cases hi
      · subst hi; exact l2.2.1 49 25 (by omega) (by omega)
    · rcases hi with hi | hi
      · cases hi
      · subst hi; exact l2.2.1 49 36 (by omega) (by omega)
    all_goals exact l2.2.1 _ _ (by omega) (by omega)
  refine ⟨fun hb => ?_, fun hb => ?_⟩
  · rw [hb] at e3
    rw [if_neg (by rw [e3.1]; decide), mf_Model_refuse, mi_b] at e1
    refine ⟨mw_wi T 49 0 (2 : Int32), e1, rfl, mi_ag_tr l2' (mi_cl_fr N 0 _ _ _ e1 ?_)⟩
    rw [mi_wi, if_pos rfl, if_neg (by decide), e3.1]
    decide
  · rw [hb] at e3
    obtain ⟨f1, _⟩ := e4 hb
    obtain ⟨s1, s2⟩ := e3.2 rfl
    rw [if_pos (show T.1 49 37 = 0 from e3.1)] at e1
    -- the program
    have len : (mt_ge Y 0 1).length = (mt_gf Y).length := (mt_ge_gf Y hY 0 1).1
    have hLB : mt_LB 0 T 0 Y (-1) (-2) := mt_LB_eq (e := mt_sz Y) (fun i _ => ⟨(e2.1 56 (by omega) (by omega) i).1, (e2.1 57 (by omega) (by omega) i).1⟩) Y 0 _ _ (by omega) l3
    have hrv : mi_rv N R T 0 (mt_ge Y 0 1) := mt_rv (n := (mt_gf Y).length) s1 Y hY 0 0 0 1 (-1) (-2) hLB f1 (by omega) (Or.inl ⟨rfl, by omega⟩) (Or.inr (Or.inl ⟨rfl, by omega⟩))
    have hsrc : mi_src N R (mw_wi T 49 36 ((T.1 49 35) + (2 : Int32))) (mt_ge Y 0 1) (T.2.1 49 8) := by
      refine ⟨?_, by omega, ?_, fun k z hz => ?_, rfl⟩
      · rw [mi_wi, if_pos rfl, if_neg (by decide), s1, len]
      · rw [mi_wi, if_pos rfl, if_pos rfl, s1, show (2 : Int32) = nI 2 from rfl, mi_add, len]
      · obtain ⟨a1, a2, a3, a4⟩ := hrv k z hz
        exact ⟨a1, fun U x1 x2 => a2 U x1 x2, fun U x1 x2 => a3 U x1 x2, a4⟩
    obtain ⟨U, u1, u2, u3⟩ := mi_tp_loop (N := N) (R := R) ((mt_ge Y 0 1).length + 2) (N - (mt_ge Y 0 1).length - 3) 0 _ hsrc (by omega) (fun j z hj => absurd hj (by omega))
    rw [show N - (mt_ge Y 0 1).length - 3 + 1 + ((mt_ge Y 0 1).length + 2) = N by omega] at u1
    have hU9 : U.1 49 9 = nI (mt_sz Y) := (u2.2.1 49 9 (by omega)).trans (show T.1 49 9 = _ from e2.2.2.trans h93)
    obtain ⟨V, v1, v2, v3⟩ := mi_tq_loop (N := N) (R := R) (nodes := mt_sz Y) (by omega) (mt_sz Y) (N - mt_sz Y - 1) 0 (mw_wi U 49 25 ((U.1 49 9) - (1 : Int32))) (show U.1 49 9 = _ from hU9) (by omega) (fun i hi => absurd hi (by omega))
    rw [show N - mt_sz Y - 1 + 1 + mt_sz Y = N by omega] at v1
    have etp : mf_Model_takeProgram N R T = some (.inl (), V) := by
      rw [mf_Model_takeProgram]
      exact u1.trans v1
    rw [etp, mi_b] at e1
    have hV36 : V.1 49 36 = nI ((mt_gf Y).length + 2) := by
      rw [v2.2.1 49 36 (by omega)]
      show U.1 49 36 = _
      rw [u2.2.1 49 36 (by omega), hsrc.2.2.1, len]
    have e1' : mf_Model_compile_l34 N R N (0 : Int32) (mw_wi (mw_wi t3 49 35 (0 : Int32)) 49 37 (0 : Int32)) = some (.inl (V.1 49 36), mw_wi V 49 1 (0 : Int32)) := e1
    have agT := mi_agF (o := 0) (S := [(49, 37), (49, 8)]) (Or.inl rfl) (mg_Model_takeProgram N R T) etp (by decide)
    have agL := mi_agF (o := 0) (S := [(49, 8)]) (Or.inl rfl) (mg_Model_compile_l34 N R N 0 _) e1' (by decide)
    have h8 : T.2.1 49 8 = w := by
      have a1 : V.2.1 49 8 = T.2.1 49 8 := mi_agL agT (by simp) 8 (Or.inr rfl)
      have a2 : V.2.1 49 8 = t3.2.1 49 8 := mi_agL agL (by simp) 8 (Or.inr rfl)
      rw [← a1, a2, l2.1, hw]
    have h370 : (mw_wi V 49 1 (0 : Int32)).1 49 37 = 0 := (mi_agI agT (r := 49) (f := 37) (by simp) 37 (Or.inr rfl)).trans e3.1
    have h00 := mi_cl_0 N 0 _ _ _ e1' h370
    refine ⟨mw_wi V 49 1 (0 : Int32), by rw [← hV36]; exact e1', h00.trans (l2.2.1 49 0 (by omega) (by omega)), rfl, ?_, ?_, ?_, ?_⟩
    · refine ⟨by rw [mt_prog_len hY]; exact hV36, fun k z hz => ?_⟩
      have hkl : k < (mt_ge Y 0 1).length + 2 := by
        have := (List.getElem?_eq_some_iff.mp hz).1
        rw [mt_prog_len hY] at this
        omega
      rw [mt_prog, ← h8] at hz
      obtain ⟨a1, a2, a3, a4⟩ := u3 k z hkl hz
      exact ⟨(v2.2.1 76 k (by omega)).trans a1, (v2.2.1 77 k (by omega)).trans a2, (v2.2.1 78 k (by omega)).trans a3, (v2.2.2 79 k (by omega)).trans a4⟩
    · show V.1 49 25 = _
      rw [v2.2.1 49 25 (by omega), mi_wi, if_pos rfl, if_pos rfl, hU9, show (1 : Int32) = nI 1 from rfl, mi_sub (by omega)]
    · have hRT : mt_RM 0 (mw_wi U 49 25 ((U.1 49 9) - (1 : Int32))) 0 Y := by
        refine mt_RM_eq (e := mt_sz Y) (fun i _ => ⟨⟨?_, ?_, ?_, ?_, ?_⟩, ?_⟩) Y 0 (by omega) (mt_RM_kz e2 hR3)
        · exact u2.2.1 51 i (by omega)
        · exact u2.2.1 52 i (by omega)
        · exact u2.2.1 53 i (by omega)
        · exact u2.2.1 54 i (by omega)
        · exact u2.2.1 55 i (by omega)
        · exact u2.2.2 58 i (by omega)
      have := mt_RM_cp v3 Y 0 (by omega) hRT
      exact mt_RM_eq (t := V) (T := mw_wi V 49 1 (0 : Int32)) (e := mt_sz Y) (fun i _ => ⟨⟨rfl, rfl, rfl, rfl, rfl⟩, rfl⟩) Y 0 (by omega) this
    · have hLT : mt_LB 0 (mw_wi U 49 25 ((U.1 49 9) - (1 : Int32))) 0 Y (-1) (-2) :=
        mt_LB_eq (e := mt_sz Y) (fun i _ => ⟨u2.2.1 56 i (by omega), u2.2.1 57 i (by omega)⟩) Y 0 _ _ (by omega) hLB
      have := mt_LB_cp v3 Y 0 _ _ (by omega) hLT
      exact mt_LB_eq (t := V) (T := mw_wi V 49 1 (0 : Int32)) (e := mt_sz Y) (fun i _ => ⟨rfl, rfl⟩) Y 0 _ _ (by omega) this
end
