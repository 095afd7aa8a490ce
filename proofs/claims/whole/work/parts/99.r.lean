/-! THE REFERENCE reduces to a strength, holds, opens; leaves -/
theorem mn_fs_eq2 {t T : mw_T} {b c n : Nat} (h60 : ∀ i, i < n → T.1 60 i = t.1 60 i ∧ T.1 61 i = t.1 61 i) (h59 : ∀ i, i < c → T.1 59 i = t.1 59 i) (hM : mt_eqM 0 b t T) : ∀ fs : mm_F, fs.length ≤ n → mn_bd fs ≤ b → mn_op fs ≤ c → mn_fs t fs → mn_fs T fs := by
  intro fs
  induction fs with
  | nil => intro _ _ _ _; trivial
  | cons z fs ih =>
    intro hn hb hc h
    obtain ⟨h1, h2, h3, h4, h5⟩ := h
    rw [mn_bd] at hb
    rw [mn_op] at hc
    rw [List.length_cons] at hn
    refine ⟨by rw [(h60 _ (by omega)).1]; exact h1, by rw [(h60 _ (by omega)).2]; exact h2, h3, fun g => ?_, ih (by omega) (by omega) (by omega) h5⟩
    rw [if_pos g] at hb hc
    obtain ⟨a1, a2, a3⟩ := h4 g
    exact ⟨a1, mt_RM_eq hM _ _ (by omega) a2, by rw [h59 _ (by omega)]; exact a3⟩
theorem mn_A_rf {S : List Nat} {t T : mw_T} {r : Option mk_L} (h : mn_A S t r) (g : mn_rf t T) (h7 : T.1 49 7 = t.1 49 7) : mn_A S T r := by
  obtain ⟨⟨h1, h3, h4⟩, p, h5, h6, h8⟩ := h
  refine ⟨⟨h1, ?_, fun i c hc => ?_⟩, p, h5, ?_, ?_⟩
  · rw [g.1 _ _ (by omega) (by omega)]; exact h3
  · rw [g.1 _ _ (by omega) (by omega)]; exact h4 i c hc
  · rw [g.1 _ _ (by omega) (by omega)]; exact h6
  · rw [h7]
    rcases h8 with h8 | ⟨a0, L, a1, a2, a3, a4, a5, a6, a7, a8⟩
    · exact Or.inl h8
    · refine Or.inr ⟨a0, L, a1, a2, a3, a4, a5, ?_, ?_, ?_⟩
      · rw [g.1 _ _ (by omega) (by omega)]; exact a6
      · rw [g.2.1 _ _ (by omega)]; exact a7
      · rw [g.2.1 _ _ (by omega)]; exact a8
theorem mn_A_rf1 {S : List Nat} {t T : mw_T} {r : Option mk_L} (h : mn_A S t r) (g : mn_rf t T) (h7 : T.1 49 7 = 1) (r' : Option mk_L) (hr : ∀ L, r' = some L → mk_hd L = 2) : mn_A S T r' := by
  obtain ⟨⟨h1, h3, h4⟩, p, h5, h6, h8⟩ := h
  refine ⟨⟨h1, ?_, fun i c hc => ?_⟩, p, h5, ?_, Or.inl ⟨h7, hr⟩⟩
  · rw [g.1 _ _ (by omega) (by omega)]; exact h3
  · rw [g.1 _ _ (by omega) (by omega)]; exact h4 i c hc
  · rw [g.1 _ _ (by omega) (by omega)]; exact h6
theorem mn_fr_eqM {t T : mw_T} (h : mn_fr t T) (b : Nat) : mt_eqM 0 b t T := by
  intro i hi
  exact ⟨⟨h.1 _ _ (by omega), h.1 _ _ (by omega), h.1 _ _ (by omega), h.1 _ _ (by omega), h.1 _ _ (by omega)⟩, h.2.1 _ _ (by omega)⟩
theorem mn_fr_fs {t T : mw_T} (h : mn_fr t T) {fs : mm_F} (hf : mn_fs t fs) : mn_fs T fs := mn_fs_eq (fun i => ⟨h.1 _ _ (by omega), h.1 _ _ (by omega)⟩) (fun i _ => h.1 _ _ (by omega)) (mn_fr_eqM h (mn_bd fs)) fs (Nat.le_refl _) (Nat.le_refl _) hf
theorem mn_s0_fr {t T : mw_T} (g : mn_fr t T) {fs : mm_F} {d : Nat} (h : mn_s0 t fs d) : mn_s0 T fs d := by
  obtain ⟨h1, ⟨h2, h3, h4⟩, h5, h6, h7⟩ := h
  refine ⟨by rw [g.1 _ _ (by omega)]; exact h1, ⟨by rw [g.1 _ _ (by omega)]; exact h2, h3, h4⟩, mn_fr_fs g h5, by rw [g.1 _ _ (by omega)]; exact h6, by rw [g.1 _ _ (by omega)]; exact h7⟩
theorem mn_s1_fr {t T : mw_T} (g : mn_fr t T) {fs : mm_F} {d : Nat} {X : mt_T} (h : mn_s1 t fs d X) : mn_s1 T fs d X := by
  obtain ⟨h1, ⟨h2, h3, h4⟩, h5, h8, h9, h10, h6, h7⟩ := h
  refine ⟨by rw [g.1 _ _ (by omega)]; exact h1, ⟨by rw [g.1 _ _ (by omega)]; exact h2, h3, h4⟩, mn_fr_fs g h5, h8, mt_RM_eq (mn_fr_eqM g (mn_bd fs + mt_sz X)) X _ (Nat.le_refl _) h9, by rw [g.1 _ _ (by omega)]; exact h10, by rw [g.1 _ _ (by omega)]; exact h6, by rw [g.1 _ _ (by omega)]; exact h7⟩
/-- a state with a frame more -/
def mn_hd (t : mw_T) (n : Nat) (x1 x2 : Int32) : mw_T := mw_wi (mw_wi (mw_wi t 60 n x1) 61 n x2) 49 11 (nI (n + 1))
theorem mn_hd_rf (t : mw_T) (n : Nat) (x1 x2 : Int32) : mn_rf t (mn_hd t n x1 x2) := ⟨fun q i h1 h2 => by rw [mn_hd, mi_w6 _ _ _ _ _ _ (by omega), mi_w6 _ _ _ _ _ _ (by omega), mi_w6 _ _ _ _ _ _ (by omega)], fun _ _ _ => rfl, rfl⟩
theorem mn_hd_o (t : mw_T) (n : Nat) (x1 x2 : Int32) {q i : Nat} (h : ¬ (q = 60 ∧ i = n)) (h1 : ¬ (q = 61 ∧ i = n)) (h2 : ¬ (q = 49 ∧ i = 11)) : (mn_hd t n x1 x2).1 q i = t.1 q i := by rw [mn_hd, mi_w6 _ _ _ _ _ _ h2, mi_w6 _ _ _ _ _ _ h1, mi_w6 _ _ _ _ _ _ h]
theorem mn_hd_fs {t : mw_T} {fs : mm_F} (h : mn_fs t fs) {z : Nat × Nat × mt_T} (hz : z.1 < 200) (hb : z.1 < 100 ∧ z.1 ≠ 3 → mn_isn z.2.2 ∧ mt_RM 0 t (mn_bd fs) z.2.2 ∧ t.1 59 (mn_op fs) = nI (mn_bd fs + mt_sz z.2.2 - 1)) : mn_fs (mn_hd t fs.length (nI z.1) (nI z.2.1)) (z :: fs) := by
  have hM : ∀ b, mt_eqM 0 b t (mn_hd t fs.length (nI z.1) (nI z.2.1)) := by
    intro b i hi
    exact ⟨⟨mn_hd_o _ _ _ _ (by omega) (by omega) (by omega), mn_hd_o _ _ _ _ (by omega) (by omega) (by omega), mn_hd_o _ _ _ _ (by omega) (by omega) (by omega), mn_hd_o _ _ _ _ (by omega) (by omega) (by omega), mn_hd_o _ _ _ _ (by omega) (by omega) (by omega)⟩, rfl⟩
  refine ⟨?_, ?_, hz, fun g => ?_, ?_⟩
  · rw [mn_hd, mi_w6 _ _ _ _ _ _ (by omega), mi_w6 _ _ _ _ _ _ (by omega), mi_w8]
  · rw [mn_hd, mi_w6 _ _ _ _ _ _ (by omega), mi_w8]
  · obtain ⟨a1, a2, a3⟩ := hb g
    exact ⟨a1, mt_RM_eq (hM (mn_bd fs + mt_sz z.2.2)) _ _ (Nat.le_refl _) a2, by rw [mn_hd_o _ _ _ _ (by omega) (by omega) (by omega)]; exact a3⟩
  · exact mn_fs_eq2 (n := fs.length) (fun i hi => ⟨mn_hd_o _ _ _ _ (by omega) (by omega) (by omega), mn_hd_o _ _ _ _ (by omega) (by omega) (by omega)⟩) (fun i _ => mn_hd_o _ _ _ _ (by omega) (by omega) (by omega)) (hM (mn_bd fs)) fs (Nat.le_refl _) (Nat.le_refl _) (Nat.le_refl _) h
section
variable {N R : Nat}
theorem mn_hold {t : mw_T} {n : Nat} (hn : n < 170) (h11 : t.1 49 11 = nI n) (x1 x2 : Int32) : mf_Model_hold N R x1 x2 t = some (.inl (), mn_hd t n x1 x2) := by
  have hin : mj_in (nI n) 170 = true := mi_inT (by omega) hn
  rw [mf_Model_hold, h11, if_pos hin, if_pos hin, mi_tn (by omega), show (1 : Int32) = nI 1 from rfl, mi_add]
  rfl
theorem mn_reduceTo {d q : Nat} (hq : q < 100) : ∀ (fs : mm_F) (F : Nat) (t : mw_T) (X : mt_T), mn_s1 t fs d X → t.1 49 7 = 0 → mn_bd fs + mt_sz X + fs.length ≤ 164 → fs.length + 1 < F → ∃ T, mf_Model_reduceTo_l0 N R F (nI q) t = some (.inl (), T) ∧ mn_rf t T ∧ ((∃ gs Y, mm_red q fs X = some (gs, Y) ∧ T.1 49 7 = 0 ∧ mn_s1 T gs d Y ∧ mn_bd gs + mt_sz Y + gs.length = mn_bd fs + mt_sz X + fs.length) ∨ (mm_red q fs X = none ∧ T.1 49 7 = 1 ∧ ∃ gs Y, mn_s1 T gs d Y ∧ gs.length ≤ fs.length)) := by
  intro fs
  induction fs with
  | nil =>
    intro F t X h h7 hb hF
    obtain ⟨F, rfl⟩ : ∃ k, F = k + 1 := ⟨F - 1, by omega⟩
    rw [me_Model_reduceTo_l0, mf_Model_reduceTo_l0B, if_pos h7, h.1, if_neg (show ¬ (0 : Int32) < nI ([] : mm_F).length by decide)]
    exact ⟨t, rfl, mn_rf_rf t, Or.inl ⟨[], X, by rw [mm_red], h7, h, rfl⟩⟩
  | cons z fs ih =>
    intro F t X h h7 hb hF
    obtain ⟨F, rfl⟩ : ∃ k, F = k + 1 := ⟨F - 1, by omega⟩
    rw [List.length_cons] at hb hF
    have h11 : t.1 49 11 = nI (fs.length + 1) := h.1
    have e11 : t.1 49 11 - (1 : Int32) = nI fs.length := by rw [h11]; exact mi_sub (b := 1) (by omega)
    have hin : mj_in (nI fs.length) 170 = true := mi_inT (by omega) (by omega)
    have h60 : t.1 60 fs.length = nI z.1 := h.2.2.1.1
    have hz2 : z.1 < 200 := h.2.2.1.2.2.1
    rw [me_Model_reduceTo_l0, mf_Model_reduceTo_l0B, if_pos h7, e11, h11, if_pos (show (0 : Int32) < nI (fs.length + 1) from mi_ltT (a := 0) (by omega) (by omega)), if_pos hin, mi_tn (by omega), h60]
    by_cases g1 : z.1 < 100
    · rw [if_pos (show nI z.1 < (100 : Int32) from mi_ltT (b := 100) (by omega) g1), if_pos hin]
      by_cases g2 : z.1 < q
      · rw [if_pos (mi_ltT (by omega) g2)]
        exact ⟨t, rfl, mn_rf_rf t, Or.inl ⟨z :: fs, X, by rw [mm_red, if_neg (by omega)], h7, h, rfl⟩⟩
      · rw [if_neg (mi_ltF (by omega) (by omega))]
        obtain ⟨T, a1, a2, a3, a4⟩ := mn_reduce (N := N) (R := R) h g1 (by omega) h7
        rw [a1, mi_b]
        cases ty : mm_ty z.1 z.2.2 X with
        | true =>
          rw [ty] at a4
          have hsz : mn_bd fs + mt_sz (mm_nd z.1 z.2.1 z.2.2 X) + fs.length = mn_bd (z :: fs) + mt_sz X + (fs.length + 1) := by
            unfold mm_nd
            rw [mn_bd]
            by_cases g3 : z.1 = 3
            · rw [if_pos g3, if_neg (show ¬ (z.1 < 100 ∧ z.1 ≠ 3) by omega), mt_sz_nd, mt_sz_0]; omega
            · rw [if_neg g3, if_pos (show z.1 < 100 ∧ z.1 ≠ 3 from ⟨g1, g3⟩), mt_sz_nd]; omega
          obtain ⟨T', b1, b2, b3⟩ := ih F T (mm_nd z.1 z.2.1 z.2.2 X) a3 a4 (by omega) (by omega)
          refine ⟨T', b1, mn_rf_tr a2 b2, ?_⟩
          rw [mm_red, if_pos ⟨g1, by omega⟩, if_pos ty]
          rcases b3 with ⟨gs, Y, c1, c2, c3, c4⟩ | ⟨c1, c2, gs, Y, c3, c4⟩
          · exact Or.inl ⟨gs, Y, c1, c2, c3, by rw [List.length_cons]; omega⟩
          · exact Or.inr ⟨c1, c2, gs, Y, c3, by rw [List.length_cons]; omega⟩
        | false =>
          rw [ty] at a4
          obtain ⟨F, rfl⟩ : ∃ k, F = k + 1 := ⟨F - 1, by omega⟩
          rw [me_Model_reduceTo_l0, mf_Model_reduceTo_l0B, if_neg (by rw [a4]; decide)]
          refine ⟨T, rfl, a2, Or.inr ⟨?_, a4, fs, _, a3, by rw [List.length_cons]; omega⟩⟩
          rw [mm_red, if_pos ⟨g1, by omega⟩, if_neg (by rw [ty]; decide)]
    · rw [if_neg (show ¬ nI z.1 < (100 : Int32) from mi_ltF (b := 100) (by omega) (by omega))]
      exact ⟨t, rfl, mn_rf_rf t, Or.inl ⟨z :: fs, X, by rw [mm_red, if_neg (by omega)], h7, h, rfl⟩⟩
/-- a bracket opens -/
theorem mn_open0 {t : mw_T} {fs : mm_F} {d : Nat} (h : mn_s0 t fs d) (hl : fs.length < 165) (x1 x2 : Int32) : ∃ T, mf_Model_open N R x1 x2 t = some (.inl (), T) ∧ mn_rf t T ∧ (¬ t.1 49 7 = 0 ∨ d = 8 → T.1 49 7 = 1) ∧ (t.1 49 7 = 0 → d < 8 → T.1 49 7 = 0 ∧ ∀ s a, 100 ≤ s → s < 200 → x1 = nI s → x2 = nI a → mn_s0 T ((s, a, mt_0) :: fs) (d + 1)) := by
  obtain ⟨h11, ⟨h12, hd, hd8⟩, hfs, h9, h10⟩ := h
  have st : ∀ y : Int32, mf_Model_hold N R x1 x2 (mw_wi (mw_wi t 49 12 (nI (d + 1))) 49 7 y) = some (.inl (), mn_hd (mw_wi (mw_wi t 49 12 (nI (d + 1))) 49 7 y) fs.length x1 x2) := fun y => mn_hold (by omega) (by rw [mi_w6 _ _ _ _ _ _ (by omega), mi_w6 _ _ _ _ _ _ (by omega)]; exact h11) x1 x2
  have rf : ∀ y : Int32, mn_rf t (mn_hd (mw_wi (mw_wi t 49 12 (nI (d + 1))) 49 7 y) fs.length x1 x2) := fun y => mn_rf_tr (u := mw_wi (mw_wi t 49 12 (nI (d + 1))) 49 7 y) ⟨fun q i g1 g2 => by rw [mi_w6 _ _ _ _ _ _ (by omega), mi_w6 _ _ _ _ _ _ (by omega)], fun _ _ _ => rfl, rfl⟩ (mn_hd_rf _ _ _ _)
  have v7 : ∀ y : Int32, (mn_hd (mw_wi (mw_wi t 49 12 (nI (d + 1))) 49 7 y) fs.length x1 x2).1 49 7 = y := fun y => by rw [mn_hd_o _ _ _ _ (by omega) (by omega) (by omega), mi_w8]
  rw [mf_Model_open, h12, show (1 : Int32) = nI 1 from rfl, mi_add]
  by_cases g : t.1 49 7 = 0 ∧ d < 8
  · rw [if_pos g.1, if_neg (show ¬ (8 : Int32) < nI (d + 1) from mi_ltF (a := 8) (by omega) (by omega)), mf_Model_open_b32, if_pos (Or.inl rfl), st, mi_b]
    refine ⟨_, rfl, rf 0, fun x => ?_, fun _ _ => ⟨v7 0, fun s a hs1 hs2 e1 e2 => ?_⟩⟩
    · rcases x with x | x
      · exact absurd g.1 x
      · omega
    · subst e1; subst e2
      have hfs' : mn_fs (mw_wi (mw_wi t 49 12 (nI (d + 1))) 49 7 0) fs := mn_fs_eq (t := t) (T := mw_wi (mw_wi t 49 12 (nI (d + 1))) 49 7 0) (fun i => ⟨by rw [mi_w6 _ _ _ _ _ _ (by omega), mi_w6 _ _ _ _ _ _ (by omega)], by rw [mi_w6 _ _ _ _ _ _ (by omega), mi_w6 _ _ _ _ _ _ (by omega)]⟩) (fun i _ => by rw [mi_w6 _ _ _ _ _ _ (by omega), mi_w6 _ _ _ _ _ _ (by omega)]) (b := mn_bd fs) (fun i _ => ⟨⟨by rw [mi_w6 _ _ _ _ _ _ (by omega), mi_w6 _ _ _ _ _ _ (by omega)], by rw [mi_w6 _ _ _ _ _ _ (by omega), mi_w6 _ _ _ _ _ _ (by omega)], by rw [mi_w6 _ _ _ _ _ _ (by omega), mi_w6 _ _ _ _ _ _ (by omega)], by rw [mi_w6 _ _ _ _ _ _ (by omega), mi_w6 _ _ _ _ _ _ (by omega)], by rw [mi_w6 _ _ _ _ _ _ (by omega), mi_w6 _ _ _ _ _ _ (by omega)]⟩, rfl⟩) fs (Nat.le_refl _) (Nat.le_refl _) hfs
      refine ⟨?_, ⟨?_, ?_, by omega⟩, mn_hd_fs (z := (s, a, mt_0)) hfs' hs2 (fun x => by simp only at x; omega), ?_, ?_⟩
      · rw [mn_hd, mi_w8, List.length_cons]
      · rw [mn_hd_o _ _ _ _ (by omega) (by omega) (by omega), mi_w6 _ _ _ _ _ _ (by omega), mi_w8]
      · rw [mn_dp, if_neg (by simp only; omega), ← hd, Nat.add_comm]
      · rw [mn_hd_o _ _ _ _ (by omega) (by omega) (by omega), mi_w6 _ _ _ _ _ _ (by omega), mi_w6 _ _ _ _ _ _ (by omega), mn_bd, if_neg (by simp only; omega), Nat.zero_add]; exact h9
      · rw [mn_hd_o _ _ _ _ (by omega) (by omega) (by omega), mi_w6 _ _ _ _ _ _ (by omega), mi_w6 _ _ _ _ _ _ (by omega), mn_op, if_neg (by simp only; omega), Nat.zero_add]; exact h10
  · have e : (if t.1 49 7 = 0 then (if (8 : Int32) < nI (d + 1) then mf_Model_open_b27 N R x1 x2 (mw_wi t 49 12 (nI (d + 1))) else mf_Model_open_b32 N R x1 x2 0 (mw_wi t 49 12 (nI (d + 1)))) else mf_Model_open_b27 N R x1 x2 (mw_wi t 49 12 (nI (d + 1)))) = mf_Model_open_b27 N R x1 x2 (mw_wi t 49 12 (nI (d + 1))) := by
      by_cases g7 : t.1 49 7 = 0
      · rw [if_pos g7, if_pos (show (8 : Int32) < nI (d + 1) from mi_ltT (a := 8) (by omega) (by have : ¬ d < 8 := fun x => g ⟨g7, x⟩; omega))]
      · rw [if_neg g7]
    rw [e, mf_Model_open_b27, mf_Model_open_b32, if_pos (Or.inr rfl), st, mi_b]
    exact ⟨_, rfl, rf 1, fun _ => v7 1, fun x y => absurd ⟨x, y⟩ g⟩
/-- a leaf is made -/
theorem mn_leaf {t : mw_T} {fs : mm_F} {d : Nat} (h : mn_s0 t fs d) (hl : mn_bd fs + fs.length < 165) (y0 xa x6 : Int32) (x4 : Int64) : ∃ T, mf_Model_node N R y0 xa (-1) x6 x4 t = some (.inl (), T) ∧ mn_rf t T ∧ T.1 49 7 = t.1 49 7 ∧ (∀ k a n m, y0 = nI k → xa = nI a → (k < 3 ∨ 9 ≤ k) → k < 100 → (10 ≤ k → x6 = nI m) → (k = 1 ∨ 10 ≤ k → x4 = nL n) → mn_s1 T fs d (mt_nd k a n m mt_0 mt_0)) := by
  obtain ⟨h11, hd, hfs, h9, h10⟩ := h
  have ho := mn_op_le fs
  obtain ⟨T, a1, a2, a3, a4, a5, a6, a7, a8, a9, a10, a11⟩ := mn_nodeL (N := N) (R := R) t (n := mn_bd fs) (c := mn_op fs) (by omega) (by omega) h9 h10 y0 xa x6 x4
  refine ⟨T, a1, mn_nf_rf a11, a11.1 _ _ (by omega) (by omega) (by omega), fun k a n m e1 e2 hk hk2 e3 e4 => ?_⟩
  refine ⟨by rw [a11.1 _ _ (by omega) (by omega) (by omega)]; exact h11, ⟨by rw [a11.1 _ _ (by omega) (by omega) (by omega)]; exact hd.1, hd.2⟩, mn_nf_fs a11 (Nat.le_refl _) (Nat.le_refl _) hfs, ⟨k, a, n, m, _, _, rfl, hk2⟩, ?_, ?_, ?_, a9⟩
  · rw [mt_RM_nd]
    refine ⟨?_, trivial, trivial⟩
    unfold mt_nM
    rw [mt_sz_0, Nat.add_zero, Nat.add_zero]
    refine ⟨by rw [a2, e1], by rw [a3, e2], fun x y => (by omega), fun _ => a4, fun x => (by omega), fun x => by rw [a5, e3 x], a6, fun x => by rw [a7, e4 (by omega)]⟩
  · rw [a8, mt_sz_nd, mt_sz_0]; rfl
  · rw [a10, mt_sz_nd, mt_sz_0]
end
