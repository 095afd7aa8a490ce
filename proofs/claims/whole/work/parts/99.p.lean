/-! THE REFERENCE's stacks -/
/-- a frame, top first: nodes below, operands below -/
def mn_bd : mm_F → Nat
  | [] => 0
  | z :: fs => (if z.1 < 100 ∧ z.1 ≠ 3 then mt_sz z.2.2 else 0) + mn_bd fs
def mn_op : mm_F → Nat
  | [] => 0
  | z :: fs => (if z.1 < 100 ∧ z.1 ≠ 3 then 1 else 0) + mn_op fs
def mn_dp : mm_F → Nat
  | [] => 0
  | z :: fs => (if z.1 < 100 then 0 else 1) + mn_dp fs
theorem mn_op_le : ∀ fs : mm_F, mn_op fs ≤ fs.length
  | [] => by rw [mn_op]; exact Nat.zero_le _
  | z :: fs => by
    have := mn_op_le fs
    rw [mn_op, List.length_cons]
    by_cases h : z.1 < 100 ∧ z.1 ≠ 3
    · rw [if_pos h]; omega
    · rw [if_neg h]; omega
def mn_isn (X : mt_T) : Prop := ∃ k a n m l r, X = mt_nd k a n m l r ∧ k < 100
theorem mn_isn_sz {X : mt_T} (h : mn_isn X) : 1 ≤ mt_sz X := by
  obtain ⟨k, a, n, m, l, r, rfl, _⟩ := h
  rw [mt_sz_nd]; omega
def mn_fs (t : mw_T) : mm_F → Prop
  | [] => True
  | z :: fs => t.1 60 fs.length = nI z.1 ∧ t.1 61 fs.length = nI z.2.1 ∧ z.1 < 200 ∧ (z.1 < 100 ∧ z.1 ≠ 3 → mn_isn z.2.2 ∧ mt_RM 0 t (mn_bd fs) z.2.2 ∧ t.1 59 (mn_op fs) = nI (mn_bd fs + mt_sz z.2.2 - 1)) ∧ mn_fs t fs
theorem mn_fs_eq {t T : mw_T} {b c : Nat} (h60 : ∀ i, T.1 60 i = t.1 60 i ∧ T.1 61 i = t.1 61 i) (h59 : ∀ i, i < c → T.1 59 i = t.1 59 i) (hM : mt_eqM 0 b t T) : ∀ fs, mn_bd fs ≤ b → mn_op fs ≤ c → mn_fs t fs → mn_fs T fs := by
  intro fs
  induction fs with
  | nil => intro _ _ _; trivial
  | cons z fs ih =>
    intro hb hc h
    obtain ⟨h1, h2, h3, h4, h5⟩ := h
    rw [mn_bd] at hb
    rw [mn_op] at hc
    refine ⟨by rw [(h60 _).1]; exact h1, by rw [(h60 _).2]; exact h2, h3, fun g => ?_, ih (by omega) (by omega) h5⟩
    rw [if_pos g] at hb hc
    obtain ⟨a1, a2, a3⟩ := h4 g
    exact ⟨a1, mt_RM_eq hM _ _ (by omega) a2, by rw [h59 _ (by omega)]; exact a3⟩
def mn_s0 (t : mw_T) (fs : mm_F) (d : Nat) : Prop := t.1 49 11 = nI fs.length ∧ (t.1 49 12 = nI d ∧ d = mn_dp fs ∧ d ≤ 8) ∧ mn_fs t fs ∧ t.1 49 9 = nI (mn_bd fs) ∧ t.1 49 10 = nI (mn_op fs)
def mn_s1 (t : mw_T) (fs : mm_F) (d : Nat) (X : mt_T) : Prop := t.1 49 11 = nI fs.length ∧ (t.1 49 12 = nI d ∧ d = mn_dp fs ∧ d ≤ 8) ∧ mn_fs t fs ∧ mn_isn X ∧ mt_RM 0 t (mn_bd fs) X ∧ t.1 59 (mn_op fs) = nI (mn_bd fs + mt_sz X - 1) ∧ t.1 49 9 = nI (mn_bd fs + mt_sz X) ∧ t.1 49 10 = nI (mn_op fs + 1)
/-- what the stacks' steps leave alone -/
def mn_rf (t T : mw_T) : Prop := (∀ q i, (q < 51 ∨ 61 < q) → (q ≠ 49 ∨ (i ≠ 7 ∧ i ≠ 9 ∧ i ≠ 10 ∧ i ≠ 11 ∧ i ≠ 12)) → T.1 q i = t.1 q i) ∧ (∀ q i, q ≠ 58 → T.2.1 q i = t.2.1 q i) ∧ T.2.2 = t.2.2
theorem mn_rf_rf (t : mw_T) : mn_rf t t := ⟨fun _ _ _ _ => rfl, fun _ _ _ => rfl, rfl⟩
theorem mn_rf_tr {t u T : mw_T} (h : mn_rf t u) (g : mn_rf u T) : mn_rf t T := ⟨fun q i hq hi => (g.1 q i hq hi).trans (h.1 q i hq hi), fun q i hq => (g.2.1 q i hq).trans (h.2.1 q i hq), g.2.2.trans h.2.2⟩
/-- a node is made -/
def mn_nf (t T : mw_T) (n c : Nat) : Prop := (∀ q i, ¬ (51 ≤ q ∧ q ≤ 55 ∧ i = n) → ¬ (q = 59 ∧ i = c) → ¬ (q = 49 ∧ (i = 9 ∨ i = 10)) → T.1 q i = t.1 q i) ∧ (∀ q i, ¬ (q = 58 ∧ i = n) → T.2.1 q i = t.2.1 q i) ∧ T.2.2 = t.2.2
theorem mi_w6 (t : mw_T) (r i : Nat) (v : Int32) (q j : Nat) (h : ¬ (q = r ∧ j = i)) : (mw_wi t r i v).1 q j = t.1 q j := by
  rw [mi_wi]
  by_cases e : q = r
  · rw [if_pos e, if_neg (fun x => h ⟨e, x⟩)]
  · rw [if_neg e]
theorem mi_w7 (t : mw_T) (r i : Nat) (v : Int64) (q j : Nat) (h : ¬ (q = r ∧ j = i)) : (mw_wl t r i v).2.1 q j = t.2.1 q j := by
  rw [mi_wl]
  by_cases e : q = r
  · rw [if_pos e, if_neg (fun x => h ⟨e, x⟩)]
  · rw [if_neg e]
theorem mi_w8 (t : mw_T) (r i : Nat) (v : Int32) : (mw_wi t r i v).1 r i = v := by rw [mi_wi, if_pos rfl, if_pos rfl]
theorem mi_w9 (t : mw_T) (r i : Nat) (v : Int64) : (mw_wl t r i v).2.1 r i = v := by rw [mi_wl, if_pos rfl, if_pos rfl]
section
variable {N R : Nat}
theorem mn_node77 (t : mw_T) {n c : Nat} (hn : n < 170) (hc : c < 170) (h9 : t.1 49 9 = nI n) (h10 : t.1 49 10 = nI c) (x1 x2 x3 x4 y0 : Int32) (x5 : Int64) : ∃ T, mf_Model_node_b77 N R y0 (nI n) (mw_wl (mw_wi (mw_wi (mw_wi (mw_wi t 51 n x1) 52 n x2) 53 n x3) 54 n x4) 58 n x5) = some (.inl (), T) ∧ T.1 51 n = x1 ∧ T.1 52 n = x2 ∧ T.1 53 n = x3 ∧ T.1 54 n = x4 ∧ T.1 55 n = y0 ∧ T.2.1 58 n = x5 ∧ T.1 59 c = nI n ∧ T.1 49 10 = nI (c + 1) ∧ T.1 49 9 = nI (n + 1) ∧ mn_nf t T n c := by
  have e9 : (mw_wl (mw_wi (mw_wi (mw_wi (mw_wi t 51 n x1) 52 n x2) 53 n x3) 54 n x4) 58 n x5).1 49 9 = nI n := by rw [mi_wl1, mi_w6 _ _ _ _ _ _ (by omega), mi_w6 _ _ _ _ _ _ (by omega), mi_w6 _ _ _ _ _ _ (by omega), mi_w6 _ _ _ _ _ _ (by omega)]; exact h9
  have e10 : (mw_wl (mw_wi (mw_wi (mw_wi (mw_wi t 51 n x1) 52 n x2) 53 n x3) 54 n x4) 58 n x5).1 49 10 = nI c := by rw [mi_wl1, mi_w6 _ _ _ _ _ _ (by omega), mi_w6 _ _ _ _ _ _ (by omega), mi_w6 _ _ _ _ _ _ (by omega), mi_w6 _ _ _ _ _ _ (by omega)]; exact h10
  rw [mf_Model_node_b77, if_pos (mi_inT (by omega) hn), e10, if_pos (mi_inT (by omega) hc), e9, mi_tn (by omega), mi_tn (by omega), show (1 : Int32) = nI 1 from rfl, mi_add, mi_add]
  refine ⟨_, rfl, ?_, ?_, ?_, ?_, ?_, ?_, ?_, ?_, ?_, fun q i h1 h2 h3 => ?_, fun q i h1 => ?_, rfl⟩
  · rw [mi_w6 _ _ _ _ _ _ (by omega), mi_w6 _ _ _ _ _ _ (by omega), mi_w6 _ _ _ _ _ _ (by omega), mi_w6 _ _ _ _ _ _ (by omega), mi_wl1, mi_w6 _ _ _ _ _ _ (by omega), mi_w6 _ _ _ _ _ _ (by omega), mi_w6 _ _ _ _ _ _ (by omega), mi_w8]
  · rw [mi_w6 _ _ _ _ _ _ (by omega), mi_w6 _ _ _ _ _ _ (by omega), mi_w6 _ _ _ _ _ _ (by omega), mi_w6 _ _ _ _ _ _ (by omega), mi_wl1, mi_w6 _ _ _ _ _ _ (by omega), mi_w6 _ _ _ _ _ _ (by omega), mi_w8]
  · rw [mi_w6 _ _ _ _ _ _ (by omega), mi_w6 _ _ _ _ _ _ (by omega), mi_w6 _ _ _ _ _ _ (by omega), mi_w6 _ _ _ _ _ _ (by omega), mi_wl1, mi_w6 _ _ _ _ _ _ (by omega), mi_w8]
  · rw [mi_w6 _ _ _ _ _ _ (by omega), mi_w6 _ _ _ _ _ _ (by omega), mi_w6 _ _ _ _ _ _ (by omega), mi_w6 _ _ _ _ _ _ (by omega), mi_wl1, mi_w8]
  · rw [mi_w6 _ _ _ _ _ _ (by omega), mi_w6 _ _ _ _ _ _ (by omega), mi_w6 _ _ _ _ _ _ (by omega), mi_w8]
  · rw [mi_wl0, mi_wl0, mi_wl0, mi_wl0, mi_w9]
  · rw [mi_w6 _ _ _ _ _ _ (by omega), mi_w6 _ _ _ _ _ _ (by omega), mi_w8]
  · rw [mi_w6 _ _ _ _ _ _ (by omega), mi_w8]
  · rw [mi_w8]
  · rw [mi_w6 _ _ _ _ _ _ (by omega), mi_w6 _ _ _ _ _ _ (by omega), mi_w6 _ _ _ _ _ _ (by omega), mi_w6 _ _ _ _ _ _ (by omega), mi_wl1, mi_w6 _ _ _ _ _ _ (by omega), mi_w6 _ _ _ _ _ _ (by omega), mi_w6 _ _ _ _ _ _ (by omega), mi_w6 _ _ _ _ _ _ (by omega)]
  · rw [mi_wl0, mi_wl0, mi_wl0, mi_wl0, mi_w7 _ _ _ _ _ _ h1, mi_wl0, mi_wl0, mi_wl0, mi_wl0]
theorem mn_nodeL (t : mw_T) {n c : Nat} (hn : n < 170) (hc : c < 170) (h9 : t.1 49 9 = nI n) (h10 : t.1 49 10 = nI c) (x1 x2 x4 : Int32) (x5 : Int64) : ∃ T, mf_Model_node N R x1 x2 (-1) x4 x5 t = some (.inl (), T) ∧ T.1 51 n = x1 ∧ T.1 52 n = x2 ∧ T.1 53 n = -1 ∧ T.1 54 n = x4 ∧ T.1 55 n = nI n ∧ T.2.1 58 n = x5 ∧ T.1 59 c = nI n ∧ T.1 49 10 = nI (c + 1) ∧ T.1 49 9 = nI (n + 1) ∧ mn_nf t T n c := by
  have hin : mj_in (nI n) 170 = true := mi_inT (by omega) hn
  rw [mf_Model_node, h9, if_pos hin, if_pos hin, if_pos hin, if_pos hin, if_pos hin, if_pos (by decide), mi_tn (by omega)]
  exact mn_node77 t hn hc h9 h10 _ _ _ _ _ _
theorem mn_nodeR (t : mw_T) {n c j : Nat} (hn : n < 170) (hc : c < 170) (hj : j < 170) (h9 : t.1 49 9 = nI n) (h10 : t.1 49 10 = nI c) (x1 x2 x4 : Int32) (x5 : Int64) : ∃ T, mf_Model_node N R x1 x2 (nI j) x4 x5 t = some (.inl (), T) ∧ T.1 51 n = x1 ∧ T.1 52 n = x2 ∧ T.1 53 n = nI j ∧ T.1 54 n = x4 ∧ T.1 55 n = t.1 55 j ∧ T.2.1 58 n = x5 ∧ T.1 59 c = nI n ∧ T.1 49 10 = nI (c + 1) ∧ T.1 49 9 = nI (n + 1) ∧ mn_nf t T n c := by
  have hin : mj_in (nI n) 170 = true := mi_inT (by omega) hn
  rw [mf_Model_node, h9, if_pos hin, if_pos hin, if_pos hin, if_pos hin, if_pos hin, if_neg (show ¬ nI j < (0 : Int32) from mi_ltF (b := 0) (by omega) (by omega)), if_pos (mi_inT (by omega) hj), mi_tn (by omega), mi_tn (by omega)]
  exact mn_node77 t hn hc h9 h10 _ _ _ _ _ _
theorem mn_isValue {t : mw_T} {X : mt_T} {b : Nat} (h : mn_isn X) (hX : mt_RM 0 t b X) (hb : b + mt_sz X ≤ 170) : mf_Model_isValue N R (nI (b + mt_sz X - 1)) t = some (.inl (mj_b2 (mm_iv X)), t) := by
  obtain ⟨k, a, n, m, l, r, rfl, hk⟩ := h
  rw [mt_RM_nd] at hX
  obtain ⟨⟨h1, _⟩, _⟩ := hX
  rw [mt_sz_nd] at hb ⊢
  rw [show b + (mt_sz l + mt_sz r + 1) - 1 = b + mt_sz l + mt_sz r by omega, mf_Model_isValue, if_pos (mi_inT (by omega) (by omega)), mi_tn (by omega), h1, mm_iv_nd]
  by_cases g : 4 < k
  · rw [if_pos (show (4 : Int32) < nI k from mi_ltT (a := 4) (by omega) g), show Nat.ble k 4 = false from by rw [← Bool.not_eq_true, Nat.ble_eq]; omega]; rfl
  · rw [if_neg (show ¬ (4 : Int32) < nI k from mi_ltF (a := 4) (by omega) (by omega)), show Nat.ble k 4 = true from by rw [Nat.ble_eq]; omega]; rfl
end
theorem mn_nf_rf {t T : mw_T} {n c : Nat} (h : mn_nf t T n c) : mn_rf t T := ⟨fun q i h1 h2 => h.1 q i (by omega) (by omega) (by omega), fun q i h1 => h.2.1 q i (by omega), h.2.2⟩
theorem mn_nf_eqM {t T : mw_T} {n c b : Nat} (h : mn_nf t T n c) (hb : b ≤ n) : mt_eqM 0 b t T := by
  intro i hi
  exact ⟨⟨h.1 _ _ (by omega) (by omega) (by omega), h.1 _ _ (by omega) (by omega) (by omega), h.1 _ _ (by omega) (by omega) (by omega), h.1 _ _ (by omega) (by omega) (by omega), h.1 _ _ (by omega) (by omega) (by omega)⟩, h.2.1 _ _ (by omega)⟩
theorem mn_nf_fs {t T : mw_T} {n c : Nat} (h : mn_nf t T n c) {fs : mm_F} (hb : mn_bd fs ≤ n) (hc : mn_op fs ≤ c) (hf : mn_fs t fs) : mn_fs T fs := mn_fs_eq (fun i => ⟨h.1 _ _ (by omega) (by omega) (by omega), h.1 _ _ (by omega) (by omega) (by omega)⟩) (fun i hi => h.1 _ _ (by omega) (by omega) (by omega)) (mn_nf_eqM h hb) fs (Nat.le_refl _) (Nat.le_refl _) hf
