/-! CODE of the class: instructions put ahead of those that are there -/
def mi_okl (L : mi_P) : Bool := L.all (fun z => !(decide (z.1 = 9 ∨ z.1 = 10 ∨ z.1 = 11)) || decide (mi_n z.2.2.2 < 16))
theorem mi_okl_app (A B : mi_P) : mi_okl (A ++ B) = (mi_okl A && mi_okl B) := by unfold mi_okl; rw [List.all_append]
/-- the rows of the program from s on -/
def mi_sg (o : Nat) (t : mw_T) (s : Nat) (L : mi_P) : Prop := ∀ k z, L[k]? = some z → t.1 (17 + o) (s + k) = nI z.1 ∧ t.1 (18 + o) (s + k) = nI z.2.1 ∧ t.1 (19 + o) (s + k) = nI z.2.2.1 ∧ t.2.1 (20 + o) (s + k) = z.2.2.2
def mi_sm (o s : Nat) (t T : mw_T) : Prop := ∀ i, s ≤ i → T.1 (17 + o) i = t.1 (17 + o) i ∧ T.1 (18 + o) i = t.1 (18 + o) i ∧ T.1 (19 + o) i = t.1 (19 + o) i ∧ T.2.1 (20 + o) i = t.2.1 (20 + o) i
/-- these instructions are put ahead, or the program is too long -/
def mi_co (o : Nat) (t : mw_T) (s : Nat) (L : mi_P) (X : mw_X Unit) : Prop :=
  (L.length ≤ s ∧ mi_okl L = true → ∃ T, X = some (.inl (), T) ∧ T.1 (16 + o) 4 = nI (s - L.length) ∧ mt_eqC o t T ∧ mi_sg o T (s - L.length) L ∧ mi_sm o s t T) ∧ (¬ (L.length ≤ s ∧ mi_okl L = true) → ∃ T, X = some (.inr 2, T))
theorem mt_eqC_rf (o : Nat) (t : mw_T) : mt_eqC o t t := fun _ _ _ => ⟨fun _ => rfl, fun _ => rfl⟩
theorem mt_eqC_tr {o : Nat} {t u T : mw_T} (h : mt_eqC o t u) (g : mt_eqC o u T) : mt_eqC o t T := fun q g1 g2 => ⟨fun i => ((g q g1 g2).1 i).trans ((h q g1 g2).1 i), fun i => ((g q g1 g2).2 i).trans ((h q g1 g2).2 i)⟩
theorem mi_bid (X : mw_X Unit) : mw_b X (fun _ T => some (.inl (), T)) = X := by
  rcases X with _ | ⟨v | q, T⟩ <;> rfl
theorem mi_co_0 {o : Nat} {t : mw_T} {s : Nat} (hs : t.1 (16 + o) 4 = nI s) : mi_co o t s [] (some (.inl (), t)) :=
  ⟨fun _ => ⟨t, rfl, hs, mt_eqC_rf o t, fun k z h => by simp at h, fun _ _ => ⟨rfl, rfl, rfl, rfl⟩⟩, fun h => absurd ⟨Nat.zero_le _, rfl⟩ h⟩
theorem mi_co_b {o : Nat} {t : mw_T} {s : Nat} {A B : mi_P} {X : mw_X Unit} {g : mw_T → mw_X Unit} (h1 : mi_co o t s B X) (h2 : ∀ T, B.length ≤ s → T.1 (16 + o) 4 = nI (s - B.length) → mt_eqC o t T → mi_co o T (s - B.length) A (g T)) : mi_co o t s (A ++ B) (mw_b X (fun _ T => g T)) := by
  refine ⟨fun h => ?_, fun h => ?_⟩
  · rw [List.length_append, mi_okl_app, Bool.and_eq_true] at h
    obtain ⟨T, rfl, e2, e3, e4, e5⟩ := h1.1 ⟨by omega, h.2.2⟩
    obtain ⟨U, f1, f2, f3, f4, f5⟩ := (h2 T (by omega) e2 e3).1 ⟨by omega, h.2.1⟩
    rw [mi_b, f1, List.length_append]
    have hlen : s - B.length - A.length = s - (A.length + B.length) := by omega
    rw [hlen] at f2 f4
    refine ⟨U, rfl, f2, mt_eqC_tr e3 f3, fun k z hz => ?_, fun i hi => ?_⟩
    · by_cases hk : k < A.length
      · rw [List.getElem?_append_left hk] at hz
        exact f4 k z hz
      · rw [List.getElem?_append_right (by omega)] at hz
        obtain ⟨r1, r2, r3, r4⟩ := e4 _ z hz
        obtain ⟨u1, u2, u3, u4⟩ := f5 (s - (A.length + B.length) + k) (by omega)
        have hi : s - B.length + (k - A.length) = s - (A.length + B.length) + k := by omega
        rw [hi] at r1 r2 r3 r4
        exact ⟨u1.trans r1, u2.trans r2, u3.trans r3, u4.trans r4⟩
    · obtain ⟨r1, r2, r3, r4⟩ := e5 i hi
      obtain ⟨u1, u2, u3, u4⟩ := f5 i (by omega)
      exact ⟨u1.trans r1, u2.trans r2, u3.trans r3, u4.trans r4⟩
  · rw [List.length_append, mi_okl_app, Bool.and_eq_true] at h
    by_cases hB : B.length ≤ s ∧ mi_okl B = true
    · obtain ⟨T, rfl, e2, e3, e4, e5⟩ := h1.1 hB
      obtain ⟨U, f⟩ := (h2 T hB.1 e2 e3).2 (fun hA => h ⟨by omega, hA.2, hB.2⟩)
      rw [mi_b]
      exact ⟨U, f⟩
    · obtain ⟨T, rfl⟩ := h1.2 hB
      exact ⟨T, rfl⟩
theorem mi_co_pre (N R o : Nat) {t : mw_T} {s : Nat} (hs : t.1 (16 + o) 4 = nI s) (hl : s ≤ 150) (op : Nat) (w : Int64) (hop : op ≠ 9 ∧ op ≠ 10 ∧ op ≠ 11 ∨ mi_n w < 16) : mi_co o t s [(op, 0, 0, w)] (mf_Program_prepend N R o (nI op) w t) := by
  have hok : mi_okl [(op, 0, 0, w)] = true := by
    unfold mi_okl
    simp only [List.all_cons, List.all_nil, Bool.and_true, Bool.or_eq_true, Bool.not_eq_true', decide_eq_false_iff_not, decide_eq_true_eq]
    omega
  by_cases h0 : s = 0
  · subst h0
    refine ⟨fun h => absurd h.1 (by simp), fun _ => ⟨mw_we t, ?_⟩⟩
    rw [mf_Program_prepend, if_pos (by rw [hs]; rfl)]
  · refine ⟨fun _ => ?_, fun h => absurd ⟨by simp; omega, hok⟩ h⟩
    have hin : mj_in (nI (s - 1)) 150 = true := mi_inT (by omega) (by omega)
    have e : nI s - (1 : Int32) = nI (s - 1) := mi_sub (b := 1) (by omega)
    rw [mf_Program_prepend, hs, if_neg (show ¬ nI s = (0 : Int32) from mi_neT (b := 0) (by omega) (by omega) h0), e, if_pos hin, if_pos hin, if_pos hin, if_pos hin, mi_tn (by omega)]
    refine ⟨_, rfl, ?_, fun q g1 g2 => ⟨fun i => ?_, fun i => ?_⟩, fun k z hz => ?_, fun i hi => ?_⟩
    · rw [mi_wl1, mi_wi, if_neg (by omega), mi_wi, if_neg (by omega), mi_wi, if_neg (by omega), mi_wi, if_pos rfl, if_pos rfl]; rfl
    · rw [mi_wl1, mi_wi, if_neg (by omega), mi_wi, if_neg (by omega), mi_wi, if_neg (by omega), mi_wi, if_neg (by omega)]
    · rw [mi_wl, if_neg (by omega)]; rfl
    · rcases k with _ | k
      · simp only [List.getElem?_cons_zero, Option.some.injEq] at hz
        subst hz
        simp only [List.length_cons, List.length_nil, Nat.zero_add, Nat.add_zero]
        refine ⟨?_, ?_, ?_, ?_⟩
        · rw [mi_wl1, mi_wi, if_neg (by omega), mi_wi, if_neg (by omega), mi_wi, if_pos rfl, if_pos rfl]
        · rw [mi_wl1, mi_wi, if_neg (by omega), mi_wi, if_pos rfl, if_pos rfl]; rfl
        · rw [mi_wl1, mi_wi, if_pos rfl, if_pos rfl]; rfl
        · rw [mi_wl, if_pos rfl, if_pos rfl]
      · simp at hz
    · refine ⟨?_, ?_, ?_, ?_⟩
      · rw [mi_wl1, mi_wi, if_neg (by omega), mi_wi, if_neg (by omega), mi_wi, if_pos rfl, if_neg (by omega), mi_wi, if_neg (by omega)]
      · rw [mi_wl1, mi_wi, if_neg (by omega), mi_wi, if_pos rfl, if_neg (by omega), mi_wi, if_neg (by omega), mi_wi, if_neg (by omega)]
      · rw [mi_wl1, mi_wi, if_pos rfl, if_neg (by omega), mi_wi, if_neg (by omega), mi_wi, if_neg (by omega), mi_wi, if_neg (by omega)]
      · rw [mi_wl, if_pos rfl, if_neg (by omega)]; rfl
theorem mi_co_tst (N R o : Nat) {t : mw_T} {s : Nat} (hs : t.1 (16 + o) 4 = nI s) (hl : s ≤ 150) (op : Nat) (w : Int64) (hop : 40 ≤ op) (y n : Nat) (hy : s ≤ y) (hn : s ≤ n) : mi_co o t s [(op, y - s, n - s, w)] (mf_Program_prependTest N R o (nI op) w (nI y) (nI n) t) := by
  obtain ⟨h1, h2⟩ := mi_co_pre N R o hs hl op w (Or.inl (by omega))
  have hok : ∀ j k, mi_okl [(op, j, k, w)] = true := by
    intro j k
    unfold mi_okl
    simp only [List.all_cons, List.all_nil, Bool.and_true, Bool.or_eq_true, Bool.not_eq_true', decide_eq_false_iff_not, decide_eq_true_eq]
    omega
  refine ⟨fun h => ?_, fun h => ?_⟩
  · obtain ⟨T, e1, e2, e3, e4, e5⟩ := h1 ⟨h.1, hok _ _⟩
    have h1s : 1 ≤ s := h.1
    simp only [List.length_cons, List.length_nil, Nat.zero_add] at e2 e4 ⊢
    have hin : mj_in (nI (s - 1)) 150 = true := mi_inT (by omega) (by omega)
    rw [mf_Program_prependTest, e1, mi_b, e2, if_pos hin, if_pos hin, mi_tn (by omega), hs, mi_sub hy, mi_sub hn]
    obtain ⟨r1, r2, r3, r4⟩ := e4 0 _ rfl
    refine ⟨_, rfl, ?_, fun q g1 g2 => ⟨fun i => ?_, fun i => (e3 q g1 g2).2 i⟩, fun k z hz => ?_, fun i hi => ?_⟩
    · rw [mi_wi, if_neg (by omega), mi_wi, if_neg (by omega), e2]
    · rw [mi_wi, if_neg (by omega), mi_wi, if_neg (by omega)]; exact (e3 q g1 g2).1 i
    · rcases k with _ | k
      · simp only [List.getElem?_cons_zero, Option.some.injEq] at hz
        subst hz
        simp only [Nat.add_zero] at r1 r2 r3 r4 ⊢
        refine ⟨?_, ?_, ?_, r4⟩
        · rw [mi_wi, if_neg (by omega), mi_wi, if_neg (by omega)]; exact r1
        · rw [mi_wi, if_neg (by omega), mi_wi, if_pos rfl, if_pos rfl]
        · rw [mi_wi, if_pos rfl, if_pos rfl]
      · simp at hz
    · obtain ⟨u1, u2, u3, u4⟩ := e5 i hi
      refine ⟨?_, ?_, ?_, u4⟩
      · rw [mi_wi, if_neg (by omega), mi_wi, if_neg (by omega)]; exact u1
      · rw [mi_wi, if_neg (by omega), mi_wi, if_pos rfl, if_neg (by omega)]; exact u2
      · rw [mi_wi, if_pos rfl, if_neg (by omega), mi_wi, if_neg (by omega)]; exact u3
  · obtain ⟨T, e1⟩ := h2 (fun hh => h ⟨hh.1, hok _ _⟩)
    rw [mf_Program_prependTest, e1]
    exact ⟨T, rfl⟩
theorem mi_co_cell (N R o : Nat) {t : mw_T} {s : Nat} (hs : t.1 (16 + o) 4 = nI s) (hl : s ≤ 150) (op c : Nat) (hop : op = 9 ∨ op = 10 ∨ op = 11) (hc : c < 100000) : mi_co o t s [(op, 0, 0, nL c)] (mf_Coder_useCell N R o (nI op) (nI c) t) := by
  rw [mf_Coder_useCell]
  by_cases h : c < 16
  · rw [if_pos (show nI c < (16 : Int32) from mi_ltT (b := 16) (by omega) h), mi_IL (by omega), mi_bid]
    exact mi_co_pre N R o hs hl op (nL c) (Or.inr (by rw [mi_n_nL (by omega)]; exact h))
  · rw [if_neg (show ¬ nI c < (16 : Int32) from mi_ltF (b := 16) (by omega) (by omega))]
    refine ⟨fun hh => ?_, fun _ => ⟨_, rfl⟩⟩
    exfalso
    have := hh.2
    unfold mi_okl at this
    simp only [List.all_cons, List.all_nil, Bool.and_true, Bool.or_eq_true, Bool.not_eq_true', decide_eq_false_iff_not, decide_eq_true_eq] at this
    rw [mi_n_nL (by omega)] at this
    omega
/-! values -/
def mt_isN : mt_T → Bool
  | .tag k (.tag _ (.tag _ (.tag _ (.append _ _)))) => Nat.beq k 1
  | _ => false
def mt_num : mt_T → Nat
  | .tag _ (.tag _ (.tag n (.tag _ (.append _ _)))) => n
  | _ => 0
theorem mt_isN_nd (k a n m : Nat) (l r : mt_T) : mt_isN (mt_nd k a n m l r) = Nat.beq k 1 := by rw [mt_nd, mt_isN]
theorem mt_num_nd (k a n m : Nat) (l r : mt_T) : mt_num (mt_nd k a n m l r) = n := by rw [mt_nd, mt_num]
/-- where an access begins, but for HEAD -/
def mq_b0 (a : Nat) : Nat := if a = 0 then 0 else 14
/-- the code of a value that uses this cell and those above it -/
def mt_gV : mt_T → Nat → mi_P
  | .tag k (.tag a (.tag n (.tag _ (.append l r)))), c => if k = 1 then [(0, 0, 0, nL n)] else if k = 2 then [(1, 0, 0, nL 0)] else
    if k = 3 then (if mt_isN l = true ∧ a ≤ 1 then [(2 + n / 2, 0, 0, nL ((mq_b0 a + mt_num l) % 4294967296))] else
      mt_gV l c ++ ((if 2 ≤ a then [(11, 0, 0, nL c), (8, 0, 0, nL 14), (9, 0, 0, nL c), (30, 0, 0, nL 0)] else []) ++ [(12, 0, 0, nL 0), (5 + n / 2, 0, 0, nL (mq_b0 a))])) else
    if mt_isN r = true then mt_gV l c ++ [(20 + a, 0, 0, nL (mt_num r))] else
      mt_gV r c ++ ([(11, 0, 0, nL c)] ++ (mt_gV l (c + 1) ++ ([(10, 0, 0, nL c)] ++ [(30 + a, 0, 0, nL 0)])))
  | _, _ => []
theorem mt_gV_nd (k a n m : Nat) (l r : mt_T) (c : Nat) : mt_gV (mt_nd k a n m l r) c = (if k = 1 then [(0, 0, 0, nL n)] else if k = 2 then [(1, 0, 0, nL 0)] else
    if k = 3 then (if mt_isN l = true ∧ a ≤ 1 then [(2 + n / 2, 0, 0, nL ((mq_b0 a + mt_num l) % 4294967296))] else
      mt_gV l c ++ ((if 2 ≤ a then [(11, 0, 0, nL c), (8, 0, 0, nL 14), (9, 0, 0, nL c), (30, 0, 0, nL 0)] else []) ++ [(12, 0, 0, nL 0), (5 + n / 2, 0, 0, nL (mq_b0 a))])) else
    if mt_isN r = true then mt_gV l c ++ [(20 + a, 0, 0, nL (mt_num r))] else
      mt_gV r c ++ ([(11, 0, 0, nL c)] ++ (mt_gV l (c + 1) ++ ([(10, 0, 0, nL c)] ++ [(30 + a, 0, 0, nL 0)])))) := by rw [mt_nd, mt_gV]
