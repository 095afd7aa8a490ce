/-! THE REFERENCE takes the program: the two loops -/
section
variable {N R : Nat}
/-- all but the rows of the program -/
def mi_np (t T : mw_T) : Prop := T.2.2 = t.2.2 ∧ (∀ q i, q < 76 ∨ 79 ≤ q → T.1 q i = t.1 q i) ∧ (∀ q i, q ≠ 79 → T.2.1 q i = t.2.1 q i)
def mi_pw (t : mw_T) (k : Nat) (z : Nat × Nat × Nat × Int64) : mw_T := mw_wi (mw_wi (mw_wl (mw_wi t 76 k (nI z.1)) 79 k z.2.2.2) 77 k (nI z.2.1)) 78 k (nI z.2.2.1)
theorem mi_pw_np (t : mw_T) (k : Nat) (z : Nat × Nat × Nat × Int64) : mi_np t (mi_pw t k z) := by
  refine ⟨rfl, fun q i h => ?_, fun q i h => ?_⟩
  · rw [mi_pw, mi_wi, if_neg (by omega), mi_wi, if_neg (by omega), mi_wl1, mi_wi, if_neg (by omega)]
  · rw [mi_pw, mi_wi2, mi_wi2, mi_wl, if_neg h, mi_wi2]
theorem mi_pw_at (t : mw_T) (k : Nat) (z : Nat × Nat × Nat × Int64) (i : Nat) : (mi_pw t k z).1 76 i = (if i = k then nI z.1 else t.1 76 i) ∧ (mi_pw t k z).1 77 i = (if i = k then nI z.2.1 else t.1 77 i) ∧ (mi_pw t k z).1 78 i = (if i = k then nI z.2.2.1 else t.1 78 i) ∧ (mi_pw t k z).2.1 79 i = (if i = k then z.2.2.2 else t.2.1 79 i) := by
  refine ⟨?_, ?_, ?_, ?_⟩
  · rw [mi_pw, mi_wi, if_neg (by decide), mi_wi, if_neg (by decide), mi_wl1, mi_wi, if_pos rfl]
  · simp [mi_pw, mi_wi, mi_wl1]
  · simp [mi_pw, mi_wi, mi_wl1]
  · rw [mi_pw, mi_wi2, mi_wi2, mi_wl, if_pos rfl, mi_wi2]
theorem mi_np_tr {t u T : mw_T} (h : mi_np t u) (g : mi_np u T) : mi_np t T := ⟨g.1.trans h.1, fun q i a => (g.2.1 q i a).trans (h.2.1 q i a), fun q i a => (g.2.2 q i a).trans (h.2.2 q i a)⟩
def mi_src (N R : Nat) (t : mw_T) (L : mi_P) (w : Int64) : Prop := t.1 49 35 = nI L.length ∧ L.length ≤ 148 ∧ t.1 49 36 = nI (L.length + 2) ∧ mi_rv N R t 0 L ∧ t.2.1 49 8 = w
theorem mi_src_np {t T : mw_T} {L : mi_P} {w : Int64} (h : mi_np t T) (hs : mi_src N R t L w) : mi_src N R T L w := by
  obtain ⟨h1, h2, h3, h4, h5⟩ := hs
  refine ⟨(h.2.1 _ _ (by omega)).trans h1, h2, (h.2.1 _ _ (by omega)).trans h3, fun k z hz => ?_, (h.2.2 _ _ (by omega)).trans h5⟩
  obtain ⟨a1, a2, a3, a4⟩ := h4 k z hz
  refine ⟨(h.2.1 _ _ (by omega)).trans a1, fun U e1 e2 => ?_, fun U e1 e2 => ?_, (h.2.2 _ _ (by omega)).trans a4⟩
  · rw [h.2.1 _ _ (by omega)]
    exact a2 U (e1.trans (h.2.1 _ _ (by omega))) (fun i => (e2 i).trans (h.2.1 _ _ (by omega)))
  · rw [h.2.1 _ _ (by omega)]
    exact a3 U (e1.trans (h.2.1 _ _ (by omega))) (fun i => (e2 i).trans (h.2.1 _ _ (by omega)))
theorem mi_tp_turn {t : mw_T} {L : mi_P} {w : Int64} (hs : mi_src N R t L w) (k g : Nat) (z : Nat × Nat × Nat × Int64) (hz : (L ++ [(60, 0, 0, w), (60, 0, 0, 0)])[k]? = some z) : mf_Model_takeProgram_l12 N R (g + 1) (nI k) t = mf_Model_takeProgram_l12 N R g (nI (k + 1)) (mi_pw t k z) := by
  obtain ⟨h1, h2, h3, h4, h5⟩ := hs
  have hlt : k < L.length + 2 := by
    have := (List.getElem?_eq_some_iff.mp hz).1
    simpa using this
  have hin : mj_in (nI k) 150 = true := mi_inT (by omega) (by omega)
  rw [me_Model_takeProgram_l12, mf_Model_takeProgram_l12B, h3, if_pos (mi_ltT (by omega) hlt), h1]
  by_cases hk : k < L.length
  · rw [List.getElem?_append_left hk] at hz
    obtain ⟨a1, a2, a3, a4⟩ := h4 k z hz
    rw [Nat.zero_add] at a1 a2 a3 a4
    rw [if_pos (mi_ltT (by omega) hk), if_pos hin, mi_tn (by omega), mf_Model_takeProgram_b44, if_pos hin, h1, if_pos (mi_ltT (by omega) hk), if_pos hin, mi_tn (by omega), mf_Model_takeProgram_b83, if_pos hin]
    rw [show (mw_wi t 76 k (t.1 72 k)).1 49 35 = nI L.length from h1, if_pos (mi_ltT (by omega) hk), if_pos hin, mi_tn (by omega)]
    rw [show (mw_wi t 76 k (t.1 72 k)).1 73 k = t.1 73 k from rfl, a2 (mw_wl (mw_wi t 76 k (t.1 72 k)) 79 k (t.2.1 75 k)) rfl (fun _ => rfl), mi_b, mf_Model_takeProgram_b112, if_pos hin]
    rw [show (mw_wl (mw_wi t 76 k (t.1 72 k)) 79 k (t.2.1 75 k)).1 49 35 = nI L.length from h1, if_pos (mi_ltT (by omega) hk), if_pos hin, mi_tn (by omega)]
    rw [show (mw_wl (mw_wi t 76 k (t.1 72 k)) 79 k (t.2.1 75 k)).1 74 k = t.1 74 k from rfl, a3 (mw_wi (mw_wl (mw_wi t 76 k (t.1 72 k)) 79 k (t.2.1 75 k)) 77 k (nI z.2.1)) rfl (fun _ => rfl), mi_b, mf_Model_takeProgram_b141, if_pos hin, mi_tn (by omega), mi_l1, mi_add, a1, a4]
    rfl
  · rw [List.getElem?_append_right (by omega)] at hz
    rw [if_neg (mi_ltF (by omega) (by omega)), mf_Model_takeProgram_b44, if_pos hin, h1, if_neg (mi_ltF (by omega) (by omega))]
    by_cases he : k = L.length
    · rw [show k - L.length = 0 by omega, List.getElem?_cons_zero, Option.some.injEq] at hz
      subst hz
      rw [if_pos (by rw [he]), mi_tn (by omega), mf_Model_takeProgram_b83, if_pos hin]
      rw [show (mw_wi t 76 k (60 : Int32)).1 49 35 = nI L.length from h1, if_neg (mi_ltF (by omega) (by omega)), mi_tn (by omega), mf_Model_takeProgram_b112, if_pos hin]
      rw [show (mw_wl (mw_wi t 76 k (60 : Int32)) 79 k (t.2.1 49 8)).1 49 35 = nI L.length from h1, if_neg (mi_ltF (by omega) (by omega)), mi_tn (by omega), mf_Model_takeProgram_b141, if_pos hin, mi_tn (by omega), mi_l1, mi_add, h5]
      rfl
    · rw [show k - L.length = 1 by omega] at hz
      simp only [List.getElem?_cons_succ, List.getElem?_cons_zero, Option.some.injEq] at hz
      subst hz
      rw [if_neg (show ¬ nI k = nI L.length from by rw [mi_eq (by omega) (by omega)]; exact he), mi_tn (by omega), mf_Model_takeProgram_b83, if_pos hin]
      rw [show (mw_wi t 76 k (60 : Int32)).1 49 35 = nI L.length from h1, if_neg (mi_ltF (by omega) (by omega)), mi_tn (by omega), mf_Model_takeProgram_b112, if_pos hin]
      rw [show (mw_wl (mw_wi t 76 k (60 : Int32)) 79 k (0 : Int64)).1 49 35 = nI L.length from h1, if_neg (mi_ltF (by omega) (by omega)), mi_tn (by omega), mf_Model_takeProgram_b141, if_pos hin, mi_tn (by omega), mi_l1, mi_add]
      rfl
def mi_pr (t : mw_T) (P : mi_P) (k : Nat) : Prop := ∀ j z, j < k → P[j]? = some z → t.1 76 j = nI z.1 ∧ t.1 77 j = nI z.2.1 ∧ t.1 78 j = nI z.2.2.1 ∧ t.2.1 79 j = z.2.2.2
theorem mi_tp_loop {L : mi_P} {w : Int64} : ∀ (j g k : Nat) (t : mw_T), mi_src N R t L w → k + j = L.length + 2 → mi_pr t (L ++ [(60, 0, 0, w), (60, 0, 0, 0)]) k → ∃ T, mf_Model_takeProgram_l12 N R (g + 1 + j) (nI k) t = mf_Model_takeProgram_l160 N R N (0 : Int32) (mw_wi T 49 25 ((T.1 49 9) - (1 : Int32))) ∧ mi_np t T ∧ mi_pr T (L ++ [(60, 0, 0, w), (60, 0, 0, 0)]) (L.length + 2) := by
  intro j
  induction j with
  | zero =>
    intro g k t hs hk hp
    have hk' : k = L.length + 2 := by omega
    subst hk'
    refine ⟨t, ?_, ⟨rfl, fun _ _ _ => rfl, fun _ _ _ => rfl⟩, hp⟩
    have := hs.2.1
    rw [Nat.add_zero, me_Model_takeProgram_l12, mf_Model_takeProgram_l12B, hs.2.2.1, if_neg (mi_ltF (by omega) (by omega))]
  | succ j ih =>
    intro g k t hs hk hp
    have hlen : (L ++ [(60, 0, 0, w), (60, 0, 0, 0)]).length = L.length + 2 := by simp
    have hlt : k < (L ++ [(60, 0, 0, w), (60, 0, 0, 0)]).length := by omega
    have hz := List.getElem?_eq_getElem hlt
    generalize (L ++ [(60, 0, 0, w), (60, 0, 0, 0)])[k] = z at hz
    obtain ⟨T, e1, e2, e3⟩ := ih g (k + 1) (mi_pw t k z) (mi_src_np (mi_pw_np t k z) hs) (by omega) (fun i y hi hy => by
      obtain ⟨a1, a2, a3, a4⟩ := mi_pw_at t k z i
      by_cases hik : i = k
      · subst hik
        rw [hz, Option.some.injEq] at hy
        subst hy
        rw [a1, a2, a3, a4, if_pos rfl, if_pos rfl, if_pos rfl, if_pos rfl]
        exact ⟨rfl, rfl, rfl, rfl⟩
      · rw [a1, a2, a3, a4, if_neg hik, if_neg hik, if_neg hik, if_neg hik]
        exact hp i y (by omega) hy)
    refine ⟨T, ?_, mi_np_tr (mi_pw_np t k z) e2, e3⟩
    rw [show g + 1 + (j + 1) = g + 1 + j + 1 by omega, mi_tp_turn hs k (g + 1 + j) z hz, e1]
/-- the copy of the tree -/
def mi_nq (t T : mw_T) : Prop := T.2.2 = t.2.2 ∧ (∀ q i, q < 63 ∨ 70 ≤ q → T.1 q i = t.1 q i) ∧ (∀ q i, q ≠ 70 → T.2.1 q i = t.2.1 q i)
def mi_cq (t T : mw_T) (k : Nat) : Prop := ∀ i, i < k → (∀ q, 51 ≤ q → q ≤ 57 → T.1 (q + 12) i = t.1 q i) ∧ T.2.1 70 i = t.2.1 58 i
def mi_qw (t : mw_T) (k : Nat) : mw_T := (mw_wi (mw_wi (mw_wi (mw_wl (mw_wi (mw_wi (mw_wi (mw_wi t 63 k (t.1 51 k)) 64 k (t.1 52 k)) 65 k (t.1 53 k)) 66 k (t.1 54 k)) 70 k (t.2.1 58 k)) 67 k (t.1 55 k)) 68 k (t.1 56 k)) 69 k (t.1 57 k))
theorem mi_qw_i (t : mw_T) (k q i : Nat) : (mi_qw t k).1 q i = if 63 ≤ q ∧ q ≤ 69 then (if i = k then t.1 (q - 12) i else t.1 q i) else t.1 q i := by
  by_cases hq : 63 ≤ q ∧ q ≤ 69
  · rw [if_pos hq]
    have : q = 63 ∨ q = 64 ∨ q = 65 ∨ q = 66 ∨ q = 67 ∨ q = 68 ∨ q = 69 := by omega
    by_cases hi : i = k
    · subst hi
      rw [if_pos rfl]
      rcases this with rfl | rfl | rfl | rfl | rfl | rfl | rfl <;> simp [mi_qw, mi_wi, mi_wl1]
    · rw [if_neg hi]
      rcases this with rfl | rfl | rfl | rfl | rfl | rfl | rfl <;> simp [mi_qw, mi_wi, mi_wl1, hi]
  · rw [if_neg hq, mi_qw, mi_wi, if_neg (by omega), mi_wi, if_neg (by omega), mi_wi, if_neg (by omega), mi_wl1, mi_wi, if_neg (by omega), mi_wi, if_neg (by omega), mi_wi, if_neg (by omega), mi_wi, if_neg (by omega)]
theorem mi_qw_l (t : mw_T) (k q i : Nat) : (mi_qw t k).2.1 q i = if q = 70 then (if i = k then t.2.1 58 i else t.2.1 q i) else t.2.1 q i := by
  rw [mi_qw, mi_wi2, mi_wi2, mi_wi2, mi_wl]
  by_cases hi : i = k
  · subst hi; rfl
  · simp only [if_neg hi]; rfl
theorem mi_tq_loop {nodes : Nat} (hn : nodes ≤ 170) : ∀ (j g k : Nat) (t : mw_T), t.1 49 9 = nI nodes → k + j = nodes → mi_cq t t k → ∃ T, mf_Model_takeProgram_l160 N R (g + 1 + j) (nI k) t = some (.inl (), T) ∧ mi_nq t T ∧ mi_cq t T nodes := by
  intro j
  induction j with
  | zero =>
    intro g k t h9 hk hc
    have hk' : k = nodes := by omega
    subst hk'
    refine ⟨t, ?_, ⟨rfl, fun _ _ _ => rfl, fun _ _ _ => rfl⟩, hc⟩
    rw [Nat.add_zero, me_Model_takeProgram_l160, mf_Model_takeProgram_l160B, h9, if_neg (mi_ltF (by omega) (by omega))]
  | succ j ih =>
    intro g k t h9 hk hc
    have hin : mj_in (nI k) 170 = true := mi_inT (by omega) (by omega)
    have lo : ∀ q i, 51 ≤ q → q ≤ 57 → (mi_qw t k).1 q i = t.1 q i := fun q i h1 h2 => by rw [mi_qw_i, if_neg (by omega)]
    have lo2 : ∀ i, (mi_qw t k).2.1 58 i = t.2.1 58 i := fun i => by rw [mi_qw_l, if_neg (by decide)]
    have hc' : mi_cq t (mi_qw t k) (k + 1) := by
      intro i hi
      refine ⟨fun q h1 h2 => ?_, ?_⟩
      · rw [mi_qw_i, if_pos (by omega)]
        by_cases hik : i = k
        · rw [if_pos hik, show q + 12 - 12 = q by omega]
        · rw [if_neg hik]; exact (hc i (by omega)).1 q h1 h2
      · rw [mi_qw_l, if_pos rfl]
        by_cases hik : i = k
        · rw [if_pos hik]
        · rw [if_neg hik]; exact (hc i (by omega)).2
    obtain ⟨T, e1, e2, e3⟩ := ih g (k + 1) (mi_qw t k) (by rw [mi_qw_i, if_neg (by omega)]; exact h9) (by omega) (fun i hi => ⟨fun q h1 h2 => ((hc' i hi).1 q h1 h2).trans (lo q i h1 h2).symm, ((hc' i hi).2).trans (lo2 i).symm⟩)
    refine ⟨T, ?_, ⟨e2.1, fun q i h => (e2.2.1 q i h).trans ?_, fun q i h => (e2.2.2 q i h).trans ?_⟩, fun i hi => ⟨fun q h1 h2 => ((e3 i hi).1 q h1 h2).trans (lo q i h1 h2), ((e3 i hi).2).trans (lo2 i)⟩⟩
    · rw [show g + 1 + (j + 1) = g + 1 + j + 1 by omega, me_Model_takeProgram_l160, mf_Model_takeProgram_l160B, h9, if_pos (mi_ltT (by omega) (by omega)), if_pos hin, if_pos hin, if_pos hin, if_pos hin, if_pos hin, if_pos hin, if_pos hin, if_pos hin, if_pos hin, if_pos hin, if_pos hin, if_pos hin, if_pos hin, if_pos hin, if_pos hin, if_pos hin, mi_tn (by omega), mi_l1, mi_add, ← e1]
      rfl
    · rw [mi_qw_i, if_neg (by omega)]
    · rw [mi_qw_l, if_neg h]
end
