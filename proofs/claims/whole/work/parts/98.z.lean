/-! THE CLASS translates a tree into a program -/
theorem mi_fr8 {A : List (Nat × Nat)} {o : Nat} (hA : A.all (fun x => !(Nat.beq x.1 8)) = true) : ¬ mw_ws A o [] (8 + o) 7 := by
  rintro (⟨x, hx, e1, _⟩ | ⟨x, hx, _⟩)
  · have := List.all_eq_true.mp hA x hx
    simp only [Bool.not_eq_true', ← Bool.not_eq_true, Nat.beq_eq] at this
    omega
  · cases hx
section
variable {N R o : Nat}
theorem mt_c_stop {t : mw_T} {s : Nat} (hs : t.1 (16 + o) 4 = nI s) (h1 : 1 ≤ s) (hl : s ≤ 150) (w : Int64) : ∃ T, mf_Program_prepend N R o (60 : Int32) w t = some (.inl (), T) ∧ T.1 (16 + o) 4 = nI (s - 1) ∧ mt_eqC o t T ∧ mi_sg o T (s - 1) [(60, 0, 0, w)] ∧ mi_sm o s t T ∧ T.1 (8 + o) 7 = t.1 (8 + o) 7 := by
  obtain ⟨T, e1, e2, e3, e4, e5⟩ := (mi_co_pre N R o hs hl 60 w (by omega)).1 ⟨by simp only [List.length_singleton]; omega, rfl⟩
  refine ⟨T, e1, e2, e3, e4, e5, ?_⟩
  exact ((mg_Program_prepend N R o 60 w t _ T e1).1 _ _ (mi_fr8 (by decide))).1
theorem mt_c_trans (hN : 200 ≤ N) (hR' : 160 ≤ R) {X : mt_T} (hX : mt_C X) (hsz : mt_sz X ≤ 160) {t : mw_T} (hR : mt_RC o t 0 X) (h8 : t.1 (8 + o) 7 = nI (mt_sz X)) (x : Int32) :
    (mi_bd 0 false (mt_gf X) = false → ∃ T, mf_Coder_translate N R o x t = some (.inl (), T) ∧ mi_PrgC (mt_prog X x.toInt64) o T ∧ mt_RC o T 0 X ∧ T.1 (8 + o) 7 = nI (mt_sz X)) ∧
    (mi_bd 0 false (mt_gf X) = true → ∃ T, mf_Coder_translate N R o x t = some (.inr 2, T)) := by
  have hpos := mt_C_pos hX
  obtain ⟨len, okl⟩ := mt_ge_gf X hX 0 1
  have hs0 : (mw_wi t (16 + o) 4 (150 : Int32)).1 (16 + o) 4 = nI 150 := by rw [mi_wi, if_pos rfl, if_pos rfl]; rfl
  obtain ⟨T1, a1, a2, a3, a4, a5, a6⟩ := mt_c_stop (N := N) (R := R) hs0 (by omega) (by omega) (0 : Int64)
  obtain ⟨T2, b1, b2, b3, b4, b5, b6⟩ := mt_c_stop (N := N) (R := R) a2 (by omega) (by omega) x.toInt64
  have c8 : T2.1 (8 + o) 7 = nI (mt_sz X) := by
    rw [b6, a6, mi_wi, if_neg (by omega), h8]
  have heq : mt_eqC o t T2 := by
    refine mt_eqC_tr (u := mw_wi t (16 + o) 4 (150 : Int32)) (fun q g1 g2 => ⟨fun i => by rw [mi_wi, if_neg (by omega)], fun i => rfl⟩) (mt_eqC_tr a3 b3)
  have hR2 : mt_RC o T2 0 X := mt_RC_eq heq X 0 hR
  have hco := mt_c_cond (N := N) (R := R) (o := o) hN hR' X hX 0 148 R 148 149 T2 hR2 (by omega) b2 (by omega) (by omega) (by omega) (by omega)
  rw [Nat.zero_add, show 148 - 148 = 0 by omega, show 149 - 148 = 1 by omega] at hco
  have htr : mf_Coder_translate N R o x t = mw_b (mf_Coder_conditionR N R o R (nI (mt_sz X - 1)) (nI 148) (nI 149) T2) (fun _ t7 => (some (.inl (), t7))) := by
    rw [mf_Coder_translate, mf_Program_empty, mi_b, a1, mi_b, mf_Program_start, mi_b, b1, mi_b, mf_Program_start, mi_b, mf_Tree_size, mi_b, c8, a2, b2, show (1 : Int32) = nI 1 from rfl, mi_sub (by omega)]
    rfl
  refine ⟨fun hb => ?_, fun hb => ?_⟩
  · unfold mi_bd at hb
    simp only [Bool.false_or, Bool.or_eq_false_iff, Bool.not_eq_false', decide_eq_false_iff_not, Nat.zero_add] at hb
    obtain ⟨T, e1, e2, e3, e4, e5⟩ := hco.1 ⟨by omega, by rw [okl]; exact hb.1⟩
    have etr : mf_Coder_translate N R o x t = some (.inl (), T) := by rw [htr, e1, mi_b]
    refine ⟨T, etr, ⟨?_, fun k z hz => ?_⟩, mt_RC_eq e3 X 0 hR2, ?_⟩
    · rw [e2, mt_prog_len hX, len, show 148 - (mt_gf X).length = 150 - ((mt_gf X).length + 2) by omega]
    · have hk : k < (mt_gf X).length + 2 := by
        have := (List.getElem?_eq_some_iff.mp hz).1
        rw [mt_prog_len hX] at this
        exact this
      rw [mt_prog_len hX]
      rw [len] at e4
      unfold mt_prog at hz
      by_cases hk1 : k < (mt_ge X 0 1).length
      · rw [List.getElem?_append_left hk1] at hz
        rw [show 150 - ((mt_gf X).length + 2) + k = 148 - (mt_gf X).length + k by omega]
        exact e4 k z hz
      · rw [List.getElem?_append_right (by omega)] at hz
        by_cases hk2 : k = (mt_gf X).length
        · rw [show k - (mt_ge X 0 1).length = 0 by omega, List.getElem?_cons_zero, Option.some.injEq] at hz
          subst hz
          rw [show 150 - ((mt_gf X).length + 2) + k = 148 by omega]
          obtain ⟨g1, g2, g3, g4⟩ := b4 0 (60, 0, 0, x.toInt64) rfl
          obtain ⟨f1, f2, f3, f4⟩ := e5 148 (by omega)
          exact ⟨f1.trans g1, f2.trans g2, f3.trans g3, f4.trans g4⟩
        · rw [show k - (mt_ge X 0 1).length = 1 by omega] at hz
          simp only [List.getElem?_cons_succ, List.getElem?_cons_zero, Option.some.injEq] at hz
          subst hz
          rw [show 150 - ((mt_gf X).length + 2) + k = 149 by omega]
          obtain ⟨g1, g2, g3, g4⟩ := a4 0 (60, 0, 0, 0) rfl
          obtain ⟨d1, d2, d3, d4⟩ := b5 149 (by omega)
          obtain ⟨f1, f2, f3, f4⟩ := e5 149 (by omega)
          exact ⟨f1.trans (d1.trans g1), f2.trans (d2.trans g2), f3.trans (d3.trans g3), f4.trans (d4.trans g4)⟩
    · exact ((mg_Coder_conditionR N R o R _ _ _ T2 _ T e1).1 _ _ (mi_fr8 (by decide))).1.trans c8
  · have hn : ¬ ((mt_ge X 0 1).length ≤ 148 ∧ mi_okl (mt_ge X 0 1) = true) := by
      intro h
      unfold mi_bd at hb
      rw [okl] at h
      rw [h.2, Bool.not_true, Bool.false_or, Bool.false_or, decide_eq_true_iff] at hb
      omega
    obtain ⟨T, e1⟩ := hco.2 hn
    exact ⟨T, by rw [htr, e1, mi_bx]⟩
end
