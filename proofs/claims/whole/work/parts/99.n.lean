/-! THE REFERENCE's questions, numbers, addresses -/
theorem mi_ite {α : Type} {P : Prop} [Decidable P] (a b : α) (t : mw_T) : (if P then (some (.inl a, t) : mw_X α) else some (.inl b, t)) = some (.inl (if P then a else b), t) := by
  by_cases h : P
  · rw [if_pos h, if_pos h]
  · rw [if_neg h, if_neg h]
/-- where the reference stands: r, what is left of the tokens; bad where nothing can come of it -/
def mn_A (S : List Nat) (t : mw_T) (r : Option mk_L) : Prop := mk_TM S t ∧ ∃ p, p ≤ S.length ∧ t.1 49 3 = nI p ∧ ((t.1 49 7 = 1 ∧ ∀ L, r = some L → mk_hd L = 2) ∨ (t.1 49 7 = 0 ∧ ∃ L, r = some L ∧ mk_lx S p = L.tail ∧ mk_wT L ∧ mn_cd t (mk_hd L) (mk_hv L)))
def mn_tl (L : mk_L) : Option mk_L := if mk_hd L = 2 then none else some L.tail
theorem mk_wT_tail {L : mk_L} (h : mk_wT L) : mk_wT L.tail := fun z hz => h z (List.mem_of_mem_tail hz)
theorem mn_A_w1 {S : List Nat} {t : mw_T} {r : Option mk_L} (h : mn_A S t r) : mn_A S (mw_wi t 49 7 1) none := by
  obtain ⟨h1, p, h2, h3, _⟩ := h
  refine ⟨mn_TX h1 (mn_fr_wi t 7 1 (by omega)), p, h2, ?_, Or.inl ⟨?_, fun L e => by cases e⟩⟩
  · rw [mi_wi, if_pos rfl, if_neg (by omega)]; exact h3
  · rw [mi_wi, if_pos rfl, if_pos rfl]
theorem mn_A_w0 {S : List Nat} {t : mw_T} {r : Option mk_L} (h : mn_A S t r) (h7 : t.1 49 7 = 0) : mn_A S (mw_wi t 49 7 0) r := by
  obtain ⟨h1, p, h2, h3, h4⟩ := h
  refine ⟨mn_TX h1 (mn_fr_wi t 7 0 (by omega)), p, h2, ?_, Or.inr ⟨?_, ?_⟩⟩
  · rw [mi_wi, if_pos rfl, if_neg (by omega)]; exact h3
  · rw [mi_wi, if_pos rfl, if_pos rfl]
  · rcases h4 with ⟨g, _⟩ | ⟨_, L, a1, a2, a3, a4, a5, a6, a7, a8⟩
    · rw [h7] at g; exact absurd g (by decide)
    · exact ⟨L, a1, a2, a3, a4, a5, by rw [mi_wi, if_pos rfl, if_neg (by omega)]; exact a6, a7, a8⟩
theorem mn_A_bad {S : List Nat} {t : mw_T} (h : mn_A S t none) : t.1 49 7 = 1 := by
  obtain ⟨_, _, _, _, ⟨g, _⟩ | ⟨_, L, e, _⟩⟩ := h
  · exact g
  · cases e
theorem mn_A_71 {S : List Nat} {t : mw_T} {r : Option mk_L} (h : mn_A S t r) (h7 : ¬ t.1 49 7 = 0) : t.1 49 7 = 1 ∧ ∀ L, r = some L → mk_hd L = 2 := by
  obtain ⟨_, _, _, _, g | ⟨g, _⟩⟩ := h
  · exact g
  · exact absurd g h7
theorem mn_A_70 {S : List Nat} {t : mw_T} {r : Option mk_L} (h : mn_A S t r) (h7 : t.1 49 7 = 0) : ∃ L, r = some L ∧ mk_wT L ∧ mn_cd t (mk_hd L) (mk_hv L) := by
  obtain ⟨_, _, _, _, ⟨g, _⟩ | ⟨_, L, a1, _, a3, a4⟩⟩ := h
  · rw [h7] at g; exact absurd g (by decide)
  · exact ⟨L, a1, a3, a4⟩
theorem mn_v_sp {k : Nat} (v : Nat) (h : 15 < k) (hk : mn_ad k) : (k ≤ 126 ∧ mn_v k v = k) ∨ (k = 8509 ∧ mn_v k v = 15649) ∨ (k = 15421 ∧ mn_v k v = 15676) ∨ (k = 15933 ∧ mn_v k v = 15678) ∨ (k = 15420 ∧ mn_v k v = 15420) ∨ (k = 15934 ∧ mn_v k v = 15934) := by
  rcases hk with g | rfl | rfl | rfl | rfl | rfl
  · refine Or.inl ⟨g, ?_⟩
    unfold mn_v
    rw [if_neg (by omega), if_neg (by omega), if_neg (by omega), if_neg (by omega), if_neg (by omega), if_neg (by omega)]
  · exact Or.inr (Or.inl ⟨rfl, rfl⟩)
  · exact Or.inr (Or.inr (Or.inl ⟨rfl, rfl⟩))
  · exact Or.inr (Or.inr (Or.inr (Or.inl ⟨rfl, rfl⟩)))
  · exact Or.inr (Or.inr (Or.inr (Or.inr (Or.inl ⟨rfl, rfl⟩))))
  · exact Or.inr (Or.inr (Or.inr (Or.inr (Or.inr ⟨rfl, rfl⟩))))
theorem mn_w_inj {i j : Nat} (hi : i < 13) (hj : j < 13) (h : mn_w i = mn_w j) : i = j := by
  have : ∀ i, i < 13 → ∀ j, j < 13 → mn_w i = mn_w j → i = j := by decide
  exact this i hi j hj h
theorem mn_c_1 {k : Nat} (h1 : 2 ≤ k) (h2 : k ≤ 15) : mn_c k = 1 := by unfold mn_c; rw [if_neg (by omega), if_neg (by omega), if_pos h2]
theorem mn_c_3 {k : Nat} (h1 : 15 < k) : mn_c k = 3 := by unfold mn_c; rw [if_neg (by omega), if_neg (by omega), if_neg (by omega)]
theorem mn_c_n1 {k : Nat} (h : k < 2 ∨ 15 < k) : mn_c k ≠ 1 := by
  by_cases g : 15 < k
  · rw [mn_c_3 g]; decide
  · have : k = 0 ∨ k = 1 := by omega
    rcases this with rfl | rfl <;> decide
theorem mn_c_n3 {k : Nat} (h : k ≤ 15) : mn_c k ≠ 3 := by
  by_cases g : 2 ≤ k
  · rw [mn_c_1 g h]; decide
  · have : k = 0 ∨ k = 1 := by omega
    rcases this with rfl | rfl <;> decide
theorem mn_c_n2 {k : Nat} (h : k ≠ 1) : mn_c k ≠ 2 := by
  by_cases g : 15 < k
  · rw [mn_c_3 g]; decide
  · by_cases g2 : k = 0
    · rw [g2]; decide
    · rw [mn_c_1 (by omega) (by omega)]; decide
theorem mn_c_le (k : Nat) : mn_c k ≤ 3 := by
  by_cases g : 15 < k
  · rw [mn_c_3 g]; decide
  · by_cases g2 : k < 2
    · have : k = 0 ∨ k = 1 := by omega
      rcases this with rfl | rfl <;> decide
    · rw [mn_c_1 (by omega) (by omega)]; decide
section
variable {N R : Nat}
theorem mn_A_take (hN : 200 ≤ N) {S : List Nat} {t : mw_T} {r : Option mk_L} (h : mn_A S t r) (hn : t.1 49 7 = 0 → ∀ L, r = some L → mk_hd L ≠ 2) : ∃ T, mf_Model_take N R t = some (.inl (), T) ∧ mn_fr t T ∧ mn_A S T (r.bind mn_tl) := by
  obtain ⟨h1, p, h2, h3, h4⟩ := h
  obtain ⟨T, a1, a2, p', a3, a4, a5⟩ := mn_take (N := N) (R := R) hN h1 h2 h3
  refine ⟨T, a1, a2, mn_TX h1 a2, p', a3, a4, ?_⟩
  rcases h4 with ⟨g, hb⟩ | ⟨g, L, b1, b2, b3, b4⟩
  · rcases a5 with ⟨c1, _⟩ | ⟨_, c2, _⟩
    · refine Or.inl ⟨c1, fun L' e => ?_⟩
      cases r with
      | none => cases e
      | some L =>
        rw [Option.bind_some, mn_tl, if_pos (hb L rfl)] at e
        cases e
    · rw [c2] at g; exact absurd g (by decide)
  · subst b1
    have hne := hn g L rfl
    rw [Option.bind_some, mn_tl, if_neg hne]
    rw [b2] at a5
    rcases a5 with ⟨c1, c2⟩ | ⟨c1, c2, c3, c4⟩
    · exact Or.inl ⟨c1, fun L' e => by cases e; exact c2.resolve_left (fun x => x g)⟩
    · exact Or.inr ⟨c1, L.tail, rfl, c3, mk_wT_tail b3, c4⟩
theorem mn_isWord0 (x : Int64) (t : mw_T) : ∃ b : Bool, mf_Model_isWord N R x t = some (.inl (mj_b2 b), t) := by
  rw [mf_Model_isWord]
  by_cases h : t.1 49 4 = 1
  · rw [if_pos h]
    by_cases g : t.2.1 49 6 = x
    · rw [if_pos g]; exact ⟨true, rfl⟩
    · rw [if_neg g]; exact ⟨false, rfl⟩
  · rw [if_neg h]; exact ⟨false, rfl⟩
theorem mn_isSign0 (x : Int64) (t : mw_T) : ∃ b : Bool, mf_Model_isSign N R x t = some (.inl (mj_b2 b), t) := by
  rw [mf_Model_isSign]
  by_cases h : t.1 49 4 = 3
  · rw [if_pos h]
    by_cases g : t.2.1 49 6 = x
    · rw [if_pos g]; exact ⟨true, rfl⟩
    · rw [if_neg g]; exact ⟨false, rfl⟩
  · rw [if_neg h]; exact ⟨false, rfl⟩
theorem mn_isWord {t : mw_T} {k v : Nat} (h : mn_cd t k v) {j : Nat} (hj : j < 13) : mf_Model_isWord N R (nL (mn_w j)) t = some (.inl (mj_b2 (decide (k = j + 3))), t) := by
  obtain ⟨_, _, h4, h6, h2⟩ := h
  rw [mf_Model_isWord, h4]
  by_cases g : 2 ≤ k ∧ k ≤ 15
  · rw [mn_c_1 g.1 g.2, if_pos (show nI 1 = 1 from rfl)]
    by_cases g2 : k = 2
    · rw [if_neg (h2 g2 j hj), decide_eq_false (by omega)]; rfl
    · have e : mn_v k v = mn_w (k - 3) := by unfold mn_v; rw [if_neg (by omega), if_neg (by omega), if_pos g.2]
      rw [h6 g2, e]
      by_cases g3 : k = j + 3
      · rw [if_pos (by rw [g3, Nat.add_sub_cancel]), decide_eq_true g3]; rfl
      · rw [if_neg (by rw [mi_eqL (mn_w_lt (by omega)) (mn_w_lt hj)]; intro x; have := mn_w_inj (by omega) hj x; omega), decide_eq_false g3]; rfl
  · rw [if_neg (show ¬ nI (mn_c k) = (1 : Int32) from mi_neT (b := 1) (by have := mn_c_le k; omega) (by omega) (mn_c_n1 (by omega))), decide_eq_false (by omega)]; rfl
theorem mn_isSign {t : mw_T} {k v : Nat} (h : mn_cd t k v) {c : Nat} (hc : 15 < c) (hca : mn_ad c) : mf_Model_isSign N R (nL (mn_v c 0)) t = some (.inl (mj_b2 (decide (k = c))), t) := by
  obtain ⟨h1, hv, h4, h6, h2⟩ := h
  rw [mf_Model_isSign, h4]
  by_cases g : 15 < k
  · rw [mn_c_3 g, if_pos (show nI 3 = 3 from rfl), h6 (by omega)]
    have e1 := mn_v_sp v g h1
    have e2 := mn_v_sp 0 hc hca
    by_cases g3 : k = c
    · rw [if_pos (by congr 1; omega), decide_eq_true g3]; rfl
    · rw [if_neg (by rw [mi_eqL (by omega) (by omega)]; omega), decide_eq_false g3]; rfl
  · rw [if_neg (show ¬ nI (mn_c k) = (3 : Int32) from mi_neT (b := 3) (by have := mn_c_le k; omega) (by omega) (mn_c_n3 (by omega))), decide_eq_false (by omega)]; rfl
theorem mn_needNumber (hN : 200 ≤ N) {S : List Nat} {t : mw_T} {r : Option mk_L} (h : mn_A S t r) {hi : Nat} (hhi : hi < 4294967296) : ∃ v T, mf_Model_needNumber N R (nL hi) t = some (.inl v, T) ∧ mn_fr t T ∧ mn_A S T ((r.bind (mk_num hi)).map (·.2)) ∧ (∀ y, r.bind (mk_num hi) = some y → v = nL y.1) := by
  have bad : r.bind (mk_num hi) = none → ∃ v T, mf_Model_needNumber_b25 N R t = some (.inl v, T) ∧ mn_fr t T ∧ mn_A S T ((r.bind (mk_num hi)).map (·.2)) ∧ (∀ y, r.bind (mk_num hi) = some y → v = nL y.1) := by
    intro e
    obtain ⟨T, a1, a2, a3⟩ := mn_A_take (N := N) (R := R) hN (mn_A_w1 h) (fun _ L e => by cases e)
    rw [mf_Model_needNumber_b25, mf_Model_needNumber_b30, if_pos (Or.inr rfl), a1, mi_b, e]
    exact ⟨_, T, rfl, mn_fr_tr (mn_fr_wi t 7 1 (by omega)) a2, a3, fun y hy => by cases hy⟩
  rw [mf_Model_needNumber]
  by_cases h7 : t.1 49 7 = 0
  · rw [if_pos h7]
    obtain ⟨L, rfl, hw, hcd⟩ := mn_A_70 h h7
    obtain ⟨k1, k2, k3, k4, k5⟩ := hcd
    rw [Option.bind_some] at bad ⊢
    by_cases g : mk_hd L = 1
    · rw [if_pos (show t.1 49 4 = 2 by rw [k3, g]; rfl)]
      have e6 : t.2.1 49 6 = nL (mk_hv L) := by rw [k4 (by omega), g]; rfl
      rw [e6]
      by_cases g2 : hi < mk_hv L
      · rw [if_pos (mi_ltLT (by omega) g2)]
        exact bad (by rw [mk_num, if_neg (by omega)])
      · rw [if_neg (mi_ltLF (by omega) (by omega)), mf_Model_needNumber_b30, if_pos (Or.inl rfl)]
        obtain ⟨T, a1, a2, a3⟩ := mn_A_take (N := N) (R := R) hN (mn_A_w0 h h7) (fun _ L' e => by cases e; omega)
        rw [Option.bind_some, mn_tl, if_neg (by omega)] at a3
        rw [a1, mi_b, mk_num, if_pos ⟨g, by omega⟩]
        exact ⟨_, T, rfl, mn_fr_tr (mn_fr_wi t 7 0 (by omega)) a2, a3, fun y hy => by cases hy; exact e6⟩
    · rw [if_neg (show ¬ t.1 49 4 = (2 : Int32) by rw [k3]; exact mi_neT (b := 2) (by have := mn_c_le (mk_hd L); omega) (by omega) (mn_c_n2 g))]
      exact bad (by rw [mk_num, if_neg (fun x => g x.1)])
  · rw [if_neg h7]
    obtain ⟨_, hb⟩ := mn_A_71 h h7
    refine bad ?_
    cases r with
    | none => rfl
    | some L =>
      rw [Option.bind_some, mk_num, if_neg (by have := hb L rfl; omega)]
theorem mn_need (hN : 200 ≤ N) {S : List Nat} {t : mw_T} {r : Option mk_L} (h : mn_A S t r) {c : Nat} (hc : 15 < c) (hca : mn_ad c) : ∃ T, mf_Model_need N R (nL (mn_v c 0)) t = some (.inl (), T) ∧ mn_fr t T ∧ mn_A S T (r.bind (mk_ex c)) := by
  have bad : r.bind (mk_ex c) = none → ∃ T, mf_Model_need_b16 N R t = some (.inl (), T) ∧ mn_fr t T ∧ mn_A S T (r.bind (mk_ex c)) := by
    intro e
    obtain ⟨T, a1, a2, a3⟩ := mn_A_take (N := N) (R := R) hN (mn_A_w1 h) (fun _ L e => by cases e)
    rw [mf_Model_need_b16, mf_Model_need_b21, if_pos (Or.inr rfl), a1, mi_b, e]
    exact ⟨T, rfl, mn_fr_tr (mn_fr_wi t 7 1 (by omega)) a2, a3⟩
  rw [mf_Model_need]
  by_cases h7 : t.1 49 7 = 0
  · rw [if_pos h7]
    obtain ⟨L, rfl, hw, hcd⟩ := mn_A_70 h h7
    rw [mn_isSign hcd hc hca, mi_b]
    rw [Option.bind_some] at bad ⊢
    by_cases g : mk_hd L = c
    · rw [decide_eq_true g, if_neg (show ¬ mj_b2 true = 0 by decide), mf_Model_need_b21, if_pos (Or.inl rfl)]
      obtain ⟨T, a1, a2, a3⟩ := mn_A_take (N := N) (R := R) hN (mn_A_w0 h h7) (fun _ L' e => by cases e; omega)
      rw [Option.bind_some, mn_tl, if_neg (by omega)] at a3
      rw [a1, mi_b, mk_ex, if_pos g]
      exact ⟨T, rfl, mn_fr_tr (mn_fr_wi t 7 0 (by omega)) a2, a3⟩
    · rw [decide_eq_false g, if_pos (show mj_b2 false = 0 from rfl)]
      exact bad (by rw [mk_ex, if_neg g])
  · rw [if_neg h7]
    obtain ⟨_, hb⟩ := mn_A_71 h h7
    refine bad ?_
    cases r with
    | none => rfl
    | some L =>
      rw [Option.bind_some, mk_ex, if_neg (by have := hb L rfl; omega)]
end
