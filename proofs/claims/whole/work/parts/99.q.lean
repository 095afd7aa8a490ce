/-! THE REFERENCE reduces -/
def mn_pf (t p : mw_T) : Prop := (∀ q i, ¬ (q = 49 ∧ (i = 7 ∨ i = 10 ∨ i = 11)) → p.1 q i = t.1 q i) ∧ p.2 = t.2
theorem mn_pf_rf (t : mw_T) : mn_pf t t := ⟨fun _ _ _ => rfl, rfl⟩
theorem mn_pf_wi {t p : mw_T} (h : mn_pf t p) (i : Nat) (v : Int32) (hi : i = 7 ∨ i = 10 ∨ i = 11) : mn_pf t (mw_wi p 49 i v) := ⟨fun q j hq => by rw [mi_w6 _ _ _ _ _ _ (by omega)]; exact h.1 q j hq, h.2⟩
theorem mn_pf_eqM {t p : mw_T} (h : mn_pf t p) (b : Nat) : mt_eqM 0 b t p := by
  intro i hi
  exact ⟨⟨h.1 _ _ (by omega), h.1 _ _ (by omega), h.1 _ _ (by omega), h.1 _ _ (by omega), h.1 _ _ (by omega)⟩, by rw [h.2]⟩
theorem mn_pf_fs {t p : mw_T} (h : mn_pf t p) {fs : mm_F} (hf : mn_fs t fs) : mn_fs p fs := mn_fs_eq (fun i => ⟨h.1 _ _ (by omega), h.1 _ _ (by omega)⟩) (fun i _ => h.1 _ _ (by omega)) (mn_pf_eqM h (mn_bd fs)) fs (Nat.le_refl _) (Nat.le_refl _) hf
theorem mn_pf_RM {t p : mw_T} (h : mn_pf t p) {X : mt_T} {b : Nat} (hX : mt_RM 0 t b X) : mt_RM 0 p b X := mt_RM_eq (mn_pf_eqM h (b + mt_sz X)) X b (Nat.le_refl _) hX
theorem mn_pf_mrf {t p : mw_T} (h : mn_pf t p) : mn_rf t p := ⟨fun q i _ hi => h.1 q i (by omega), fun q i _ => by rw [h.2], by rw [h.2]⟩
theorem mn_root {t : mw_T} {X : mt_T} {b : Nat} (h : mn_isn X) (hX : mt_RM 0 t b X) : t.1 55 (b + mt_sz X - 1) = nI b := by
  obtain ⟨k, a, n, m, l, r, rfl, hk⟩ := h
  rw [mt_RM_nd] at hX
  obtain ⟨⟨_, _, _, _, _, _, h7, _⟩, _⟩ := hX
  rw [mt_sz_nd, show b + (mt_sz l + mt_sz r + 1) - 1 = b + mt_sz l + mt_sz r by omega]
  exact h7
section
variable {N R : Nat}
theorem mn_pop {t : mw_T} {c : Nat} (hc : c < 170) (h10 : t.1 49 10 = nI (c + 1)) : mf_Model_pop N R t = some (.inl (t.1 59 c), mw_wi t 49 10 (nI c)) := by
  have e : t.1 49 10 - (1 : Int32) = nI c := by rw [h10]; exact mi_sub (b := 1) (by omega)
  rw [mf_Model_pop, e, if_pos (mi_inT (by omega) hc), mi_tn (by omega)]
/-- a node over one tree or over two -/
theorem mn_over {t p : mw_T} {fs : mm_F} {d : Nat} (hd : t.1 49 12 = nI d ∧ d = mn_dp fs ∧ d ≤ 8) (hfs : mn_fs t fs) (hp : mn_pf t p) {l r : mt_T} (hl : mn_isn l) (hlR : mt_RM 0 t (mn_bd fs) l) (hrR : mt_RM 0 t (mn_bd fs + mt_sz l) r) (hb : mn_bd fs + mt_sz l + mt_sz r + fs.length < 165) (h11 : p.1 49 11 = nI fs.length) (h10 : p.1 49 10 = nI (mn_op fs)) (h9 : p.1 49 9 = nI (mn_bd fs + mt_sz l + mt_sz r)) (k a n : Nat) (x4 : Int32) (x5 : Int64) (hk1 : 3 ≤ k) (hk2 : k ≤ 8) (hx4 : k = 4 ∨ k = 5 ∨ k = 6 ∨ k = 8 → x4 = nI (mn_bd fs + mt_sz l + mt_sz r - 1)) (hx5 : k = 3 → x5 = nL n) : ∃ T, mf_Model_node N R (nI k) (nI a) (nI (mn_bd fs + mt_sz l - 1)) x4 x5 p = some (.inl (), T) ∧ mn_rf t T ∧ mn_s1 T fs d (mt_nd k a n 0 l r) ∧ T.1 49 7 = p.1 49 7 := by
  have hl1 := mn_isn_sz hl
  have ho := mn_op_le fs
  obtain ⟨T, a1, a2, a3, a4, a5, a6, a7, a8, a9, a10, a11⟩ := mn_nodeR (N := N) (R := R) p (n := mn_bd fs + mt_sz l + mt_sz r) (c := mn_op fs) (j := mn_bd fs + mt_sz l - 1) (by omega) (by omega) (by omega) h9 h10 (nI k) (nI a) x4 x5
  have e55 : p.1 55 (mn_bd fs + mt_sz l - 1) = nI (mn_bd fs) := by rw [hp.1 _ _ (by omega)]; exact mn_root hl hlR
  refine ⟨T, a1, mn_rf_tr (mn_pf_mrf hp) (mn_nf_rf a11), ⟨?_, ⟨?_, hd.2.1, hd.2.2⟩, ?_, ⟨k, a, n, 0, l, r, rfl, by omega⟩, ?_, ?_, ?_, a9⟩, ?_⟩
  · rw [a11.1 _ _ (by omega) (by omega) (by omega)]; exact h11
  · rw [a11.1 _ _ (by omega) (by omega) (by omega), hp.1 _ _ (by omega)]; exact hd.1
  · exact mn_nf_fs a11 (by omega) (by omega) (mn_pf_fs hp hfs)
  · rw [mt_RM_nd]
    refine ⟨⟨a2, a3, fun _ _ => a4, fun g => (by omega), fun g => ?_, fun g => (by omega), ?_, fun g => ?_⟩, ?_, ?_⟩
    · rw [← hx4 g]; exact a5
    · rw [← e55]; exact a6
    · rw [← hx5 (by omega)]; exact a7
    · exact mt_RM_eq (mn_nf_eqM a11 (b := mn_bd fs + mt_sz l) (by omega)) l _ (by omega) (mn_pf_RM hp hlR)
    · exact mt_RM_eq (mn_nf_eqM a11 (b := mn_bd fs + mt_sz l + mt_sz r) (by omega)) r _ (by omega) (mn_pf_RM hp hrR)
  · rw [mt_sz_nd, a8, show mn_bd fs + (mt_sz l + mt_sz r + 1) - 1 = mn_bd fs + mt_sz l + mt_sz r by omega]
  · rw [mt_sz_nd, a10, show mn_bd fs + (mt_sz l + mt_sz r + 1) = mn_bd fs + mt_sz l + mt_sz r + 1 by omega]
  · rw [a11.1 _ _ (by omega) (by omega) (by omega)]
theorem mn_reduce {t : mw_T} {z : Nat × Nat × mt_T} {fs : mm_F} {d : Nat} {X : mt_T} (h : mn_s1 t (z :: fs) d X) (hz : z.1 < 100) (hb : mn_bd (z :: fs) + mt_sz X + fs.length < 165) (h7 : t.1 49 7 = 0) : ∃ T, mf_Model_reduce N R t = some (.inl (), T) ∧ mn_rf t T ∧ mn_s1 T fs d (mm_nd z.1 z.2.1 z.2.2 X) ∧ T.1 49 7 = mj_b2 (!(mm_ty z.1 z.2.2 X)) := by
  obtain ⟨h11, ⟨h12, hd, hd8⟩, ⟨f60, f61, _, fbin, ffs⟩, hX, hXR, h59, h9, h10⟩ := h
  have hX1 := mn_isn_sz hX
  have ho := mn_op_le fs
  rw [List.length_cons] at h11
  have e11 : t.1 49 11 - (1 : Int32) = nI fs.length := by rw [h11]; exact mi_sub (b := 1) (by omega)
  have hdd : d = mn_dp fs := by rw [hd, mn_dp, if_pos hz, Nat.zero_add]
  have ho2 := mn_op_le (z :: fs)
  rw [List.length_cons] at ho2
  have p1 := mn_pf_wi (mn_pf_rf t) 11 (nI fs.length) (by omega)
  have p2 := mn_pf_wi p1 10 (nI (mn_op (z :: fs))) (by omega)
  have hfl : fs.length < 165 := by omega
  rw [mf_Model_reduce, e11, if_pos (mi_inT (by omega) (by omega)), mn_pop (c := mn_op (z :: fs)) (by omega) (by rw [mi_w6 _ _ _ _ _ _ (by omega)]; exact h10), mi_b, mi_tn (by omega), f60, p1.1 _ _ (by omega), h59]
  have w7 : (mw_wi (mw_wi t 49 11 (nI fs.length)) 49 10 (nI (mn_op (z :: fs)))).1 49 7 = 0 := by rw [mi_w6 _ _ _ _ _ _ (by omega), mi_w6 _ _ _ _ _ _ (by omega)]; exact h7
  by_cases g3 : z.1 = 3
  · have hbd : mn_bd (z :: fs) = mn_bd fs := by rw [mn_bd, if_neg (by omega), Nat.zero_add]
    have hop : mn_op (z :: fs) = mn_op fs := by rw [mn_op, if_neg (by omega), Nat.zero_add]
    rw [hbd] at hb hXR h9
    rw [hbd, hop, if_pos (by rw [g3]; rfl)]
    rw [hop] at p2 w7
    rw [if_pos w7, mn_isValue hX (mn_pf_RM p2 hXR) (by omega), mi_b]
    have e : (if mj_b2 (mm_iv X) = 0 then mf_Model_reduce_b51 N R (nI (mn_bd fs + mt_sz X - 1)) 0 (mw_wi (mw_wi t 49 11 (nI fs.length)) 49 10 (nI (mn_op fs))) else mf_Model_reduce_b46 N R (nI (mn_bd fs + mt_sz X - 1)) (mw_wi (mw_wi t 49 11 (nI fs.length)) 49 10 (nI (mn_op fs)))) = mf_Model_reduce_b51 N R (nI (mn_bd fs + mt_sz X - 1)) (mj_b2 (mm_iv X)) (mw_wi (mw_wi t 49 11 (nI fs.length)) 49 10 (nI (mn_op fs))) := by
      cases mm_iv X <;> rfl
    rw [e, mf_Model_reduce_b51, if_pos (by cases mm_iv X <;> first | exact Or.inl rfl | exact Or.inr rfl)]
    have p3 := mn_pf_wi p2 7 (mj_b2 (mm_iv X)) (by omega)
    obtain ⟨T, a1, a2, a3, a4⟩ := mn_over (N := N) (R := R) ⟨h12, hdd, hd8⟩ ffs p3 hX hXR (r := mt_0) (by trivial) (by rw [mt_sz_0]; omega) (by rw [mi_w6 _ _ _ _ _ _ (by omega), mi_w6 _ _ _ _ _ _ (by omega), mi_w8]) (by rw [mi_w6 _ _ _ _ _ _ (by omega), mi_w8]) (by rw [p3.1 _ _ (by omega), h9, mt_sz_0, Nat.add_zero]) 7 0 0 (-1) 0 (by omega) (by omega) (fun g => by omega) (fun g => by omega)
    rw [show (7 : Int32) = nI 7 from rfl, show (0 : Int32) = nI 0 from rfl, a1, mi_b]
    refine ⟨T, rfl, a2, ?_, ?_⟩
    · rw [g3]; exact a3
    · rw [a4, mi_w8, g3]
      unfold mm_ty
      rw [if_pos rfl, Bool.not_not]
  · obtain ⟨hl, hlR, hl59⟩ := fbin ⟨hz, g3⟩
    have hbd : mn_bd (z :: fs) = mt_sz z.2.2 + mn_bd fs := by rw [mn_bd, if_pos ⟨hz, g3⟩]
    have hop : mn_op (z :: fs) = mn_op fs + 1 := by rw [mn_op, if_pos ⟨hz, g3⟩, Nat.add_comm]
    have hl1 := mn_isn_sz hl
    rw [hbd] at hb hXR h9
    rw [show mt_sz z.2.2 + mn_bd fs = mn_bd fs + mt_sz z.2.2 by omega] at hb hXR h9
    rw [hop] at p2 w7
    rw [hbd, hop, if_neg (show ¬ nI z.1 = (3 : Int32) from mi_neT (b := 3) (by omega) (by omega) g3), mn_pop (c := mn_op fs) (by omega) (by rw [mi_w8]), mi_b, p2.1 _ _ (by omega), hl59]
    have p3 := mn_pf_wi p2 10 (nI (mn_op fs)) (by omega)
    have v7 : (mw_wi (mw_wi (mw_wi t 49 11 (nI fs.length)) 49 10 (nI (mn_op fs + 1))) 49 10 (nI (mn_op fs))).1 49 7 = 0 := by rw [mi_w6 _ _ _ _ _ _ (by omega)]; exact w7
    rw [show mt_sz z.2.2 + mn_bd fs + mt_sz X - 1 = mn_bd fs + mt_sz z.2.2 + mt_sz X - 1 by omega]
    have e80 : ∀ y0 : Int32, y0 = mj_b2 (Nat.blt 2 z.1) → mf_Model_reduce_b80 N R (nI z.1) (nI (mn_bd fs + mt_sz z.2.2 + mt_sz X - 1)) (nI (mn_bd fs + mt_sz z.2.2 - 1)) y0 (mw_wi (mw_wi (mw_wi t 49 11 (nI fs.length)) 49 10 (nI (mn_op fs + 1))) 49 10 (nI (mn_op fs))) = mf_Model_reduce_b115 N R (nI z.1) (nI (mn_bd fs + mt_sz z.2.2 + mt_sz X - 1)) (nI (mn_bd fs + mt_sz z.2.2 - 1)) (mj_b2 (!(mm_ty z.1 z.2.2 X))) (mw_wi (mw_wi (mw_wi t 49 11 (nI fs.length)) 49 10 (nI (mn_op fs + 1))) 49 10 (nI (mn_op fs))) := by
      intro y0 hy
      rw [mf_Model_reduce_b80, if_pos v7, mn_isValue hl (mn_pf_RM p3 hlR) (by omega), mi_b, mn_isValue hX (mn_pf_RM p3 hXR) (by omega), mi_b, hy]
      unfold mm_ty
      rw [if_neg g3]
      cases mm_iv z.2.2 <;> cases mm_iv X <;> cases Nat.blt 2 z.1 <;> rfl
    have e2 : (if (2 : Int32) < nI z.1 then mf_Model_reduce_b80 N R (nI z.1) (nI (mn_bd fs + mt_sz z.2.2 + mt_sz X - 1)) (nI (mn_bd fs + mt_sz z.2.2 - 1)) 1 (mw_wi (mw_wi (mw_wi t 49 11 (nI fs.length)) 49 10 (nI (mn_op fs + 1))) 49 10 (nI (mn_op fs))) else mf_Model_reduce_b80 N R (nI z.1) (nI (mn_bd fs + mt_sz z.2.2 + mt_sz X - 1)) (nI (mn_bd fs + mt_sz z.2.2 - 1)) 0 (mw_wi (mw_wi (mw_wi t 49 11 (nI fs.length)) 49 10 (nI (mn_op fs + 1))) 49 10 (nI (mn_op fs)))) = mf_Model_reduce_b115 N R (nI z.1) (nI (mn_bd fs + mt_sz z.2.2 + mt_sz X - 1)) (nI (mn_bd fs + mt_sz z.2.2 - 1)) (mj_b2 (!(mm_ty z.1 z.2.2 X))) (mw_wi (mw_wi (mw_wi t 49 11 (nI fs.length)) 49 10 (nI (mn_op fs + 1))) 49 10 (nI (mn_op fs))) := by
      by_cases g2 : 2 < z.1
      · rw [if_pos (show (2 : Int32) < nI z.1 from mi_ltT (a := 2) (by omega) g2)]
        exact e80 1 (by rw [show Nat.blt 2 z.1 = true from by rw [Nat.blt_eq]; exact g2]; rfl)
      · rw [if_neg (show ¬ (2 : Int32) < nI z.1 from mi_ltF (a := 2) (by omega) (by omega))]
        exact e80 0 (by rw [show Nat.blt 2 z.1 = false from by rw [← Bool.not_eq_true, Nat.blt_eq]; exact g2]; rfl)
    rw [e2]
    generalize hty : (!(mm_ty z.1 z.2.2 X)) = ty
    have p4 := mn_pf_wi p3 7 (mj_b2 ty) (by omega)
    have k1 : nI z.1 = (1 : Int32) ↔ z.1 = 1 := by
      have : nI z.1 = nI 1 ↔ z.1 = 1 := by rw [mi_eq (by omega) (by omega)]
      exact this
    have k2 : nI z.1 = (2 : Int32) ↔ z.1 = 2 := by
      have : nI z.1 = nI 2 ↔ z.1 = 2 := by rw [mi_eq (by omega) (by omega)]
      exact this
    have k4 : nI z.1 = (4 : Int32) ↔ z.1 = 4 := by
      have : nI z.1 = nI 4 ↔ z.1 = 4 := by rw [mi_eq (by omega) (by omega)]
      exact this
    have fin : ∀ k, (k = 4 ∨ k = 5 ∨ k = 6 ∨ k = 8) → ∃ T, mf_Model_reduce_b149 N R (nI (mn_bd fs + mt_sz z.2.2 + mt_sz X - 1)) (nI (mn_bd fs + mt_sz z.2.2 - 1)) (nI k) (mw_wi (mw_wi (mw_wi (mw_wi t 49 11 (nI fs.length)) 49 10 (nI (mn_op fs + 1))) 49 10 (nI (mn_op fs))) 49 7 (mj_b2 ty)) = some (.inl (), T) ∧ mn_rf t T ∧ mn_s1 T fs d (mt_nd k z.2.1 0 0 z.2.2 X) ∧ T.1 49 7 = mj_b2 ty := by
      intro k hk
      have q11 : (mw_wi (mw_wi (mw_wi (mw_wi t 49 11 (nI fs.length)) 49 10 (nI (mn_op fs + 1))) 49 10 (nI (mn_op fs))) 49 7 (mj_b2 ty)).1 49 11 = nI fs.length := by rw [mi_w6 _ _ _ _ _ _ (by omega), mi_w6 _ _ _ _ _ _ (by omega), mi_w6 _ _ _ _ _ _ (by omega), mi_w8]
      obtain ⟨T, a1, a2, a3, a4⟩ := mn_over (N := N) (R := R) ⟨h12, hdd, hd8⟩ ffs p4 hl hlR (r := X) hXR (by omega) q11 (by rw [mi_w6 _ _ _ _ _ _ (by omega), mi_w8]) (by rw [p4.1 _ _ (by omega), h9]) k z.2.1 0 (nI (mn_bd fs + mt_sz z.2.2 + mt_sz X - 1)) 0 (by omega) (by omega) (fun _ => rfl) (fun g => by omega)
      rw [mf_Model_reduce_b149, q11, if_pos (mi_inT (by omega) (by omega)), mi_tn (by omega), p4.1 _ _ (by omega), f61, a1, mi_b]
      exact ⟨T, rfl, a2, a3, by rw [a4, mi_w8]⟩
    rw [mf_Model_reduce_b115, if_pos (by cases ty <;> first | exact Or.inl rfl | exact Or.inr rfl)]
    unfold mm_nd
    rw [if_neg g3]
    by_cases g1 : z.1 = 1
    · rw [if_pos (k1.mpr g1), if_pos g1]; exact fin 6 (by omega)
    rw [if_neg (fun x => g1 (k1.mp x)), if_neg g1]
    by_cases g2 : z.1 = 2
    · rw [if_pos (k2.mpr g2), if_pos g2]; exact fin 5 (by omega)
    rw [if_neg (fun x => g2 (k2.mp x)), if_neg g2]
    by_cases g4 : z.1 = 4
    · rw [if_pos (k4.mpr g4), if_pos g4]; exact fin 8 (by omega)
    rw [if_neg (fun x => g4 (k4.mp x)), if_neg g4]
    exact fin 4 (by omega)
end
