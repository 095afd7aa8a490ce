/-! THE REFERENCE takes the program: labels become ways -/
def mi_at (t : mw_T) (n : Nat) (lab : Int32) (p : Nat) : Prop := (lab = -1 ∧ p = n) ∨ (lab = -2 ∧ p = n + 1) ∨ (∃ i, i < 170 ∧ lab = nI i ∧ t.1 62 i = nI p)
theorem mt_wf_get {L : mi_P} (h : mt_wf L) : ∀ (k : Nat) (z : Nat × Nat × Nat × Int64), L[k]? = some z → z.2.1 ≤ 3 ∧ z.2.2.1 ≤ 3 := by
  induction L with
  | nil => intro k z hz; simp at hz
  | cons y L ih =>
    rw [mt_wf] at h
    obtain ⟨⟨h1, h2⟩, h3⟩ := h
    intro k z hz
    rcases k with _ | k
    · simp only [List.getElem?_cons_zero, Option.some.injEq] at hz
      subst hz
      rcases h2 with ⟨a, b, c⟩ | ⟨a, b, c, d⟩
      · rw [b, c]; omega
      · exact ⟨b, c⟩
    · rw [List.getElem?_cons_succ] at hz
      exact ih h3 k z hz
theorem mt_rs_get (L : mi_P) (dy dn : Nat) : ∀ (k : Nat) (z : Nat × Nat × Nat × Int64), (mt_rs L dy dn)[k]? = some z → ∃ y, L[k]? = some y ∧ z = (y.1, mt_jv y.2.1 (L.length - k - 1) dy dn, mt_jv y.2.2.1 (L.length - k - 1) dy dn, y.2.2.2) := by
  induction L with
  | nil => intro k z hz; rw [mt_rs] at hz; simp at hz
  | cons y L ih =>
    intro k z hz
    rw [mt_rs] at hz
    rcases k with _ | k
    · simp only [List.getElem?_cons_zero, Option.some.injEq] at hz
      refine ⟨y, rfl, ?_⟩
      rw [← hz, List.length_cons]; rfl
    · rw [List.getElem?_cons_succ] at hz
      obtain ⟨x, h1, h2⟩ := ih k z hz
      refine ⟨x, by rw [List.getElem?_cons_succ]; exact h1, ?_⟩
      rw [h2, List.length_cons, show L.length + 1 - (k + 1) - 1 = L.length - k - 1 by omega]
section
variable {N R : Nat}
def mi_wy (N R : Nat) (t : mw_T) (k : Nat) (lab : Int32) (v : Nat) : Prop := ∀ T : mw_T, T.1 49 35 = t.1 49 35 → (∀ i, T.1 62 i = t.1 62 i) → mf_Model_way N R (nI k) lab T = some (.inl (nI v), T)
def mi_rv (N R : Nat) (t : mw_T) (c : Nat) (L : mi_P) : Prop := ∀ k z, L[k]? = some z → t.1 72 (c + k) = nI z.1 ∧ mi_wy N R t (c + k) (t.1 73 (c + k)) z.2.1 ∧ mi_wy N R t (c + k) (t.1 74 (c + k)) z.2.2.1 ∧ t.2.1 75 (c + k) = z.2.2.2
theorem mi_rv_app {t : mw_T} {c : Nat} {A B : mi_P} (hA : mi_rv N R t c A) (hB : mi_rv N R t (c + A.length) B) : mi_rv N R t c (A ++ B) := by
  intro k z hz
  by_cases hk : k < A.length
  · rw [List.getElem?_append_left hk] at hz
    exact hA k z hz
  · rw [List.getElem?_append_right (by omega)] at hz
    have := hB _ z hz
    rw [show c + A.length + (k - A.length) = c + k by omega] at this
    exact this
theorem mi_wy_at {t : mw_T} {n k p : Nat} {lab : Int32} (h35 : t.1 49 35 = nI n) (h : mi_at t n lab p) (hk : k + 1 ≤ p) : mi_wy N R t k lab (p - k - 1) := by
  intro T e1 e2
  have fin : ∀ y : Int32, y = nI p → mf_Model_way_b57 N R (nI k) y T = some (.inl (nI (p - k - 1)), T) := by
    intro y hy
    rw [mf_Model_way_b57, hy, mi_sub (by omega), show (1 : Int32) = nI 1 from rfl, mi_sub (by omega)]
  rcases h with ⟨rfl, rfl⟩ | ⟨rfl, rfl⟩ | ⟨i, hi, rfl, hp⟩
  · rw [mf_Model_way, if_neg (by decide), if_neg (by decide), if_pos rfl]
    exact fin _ (e1.trans h35)
  · rw [mf_Model_way, if_neg (by decide), if_neg (by decide), if_neg (by decide), if_pos rfl]
    exact fin _ (by rw [e1, h35, show (1 : Int32) = nI 1 from rfl, mi_add])
  · have ne : ∀ m : Nat, 0 < m → m < 100 → ¬ nI i = -(nI m) := by
      intro m h1 h2 he
      have := congrArg (fun x : Int32 => x + nI m) he
      simp only [mi_add] at this
      rw [Int32.add_comm, Int32.add_right_neg, show (0 : Int32) = nI 0 from rfl, mi_eq (by omega) (by omega)] at this
      omega
    rw [mf_Model_way, if_neg (show ¬ nI i = (-3 : Int32) from ne 3 (by omega) (by omega)), if_neg (show ¬ nI i = (-4 : Int32) from ne 4 (by omega) (by omega)), if_neg (show ¬ nI i = (-1 : Int32) from ne 1 (by omega) (by omega)), if_neg (show ¬ nI i = (-2 : Int32) from ne 2 (by omega) (by omega)), if_pos (mi_inT (by omega) hi), mi_tn (by omega)]
    exact fin _ ((e2 i).trans hp)
theorem mi_wy_lab {t : mw_T} {n k r dy dn j : Nat} {h f : Int32} (h35 : t.1 49 35 = nI n) (hh : mi_at t n h (k + 1 + r + dy)) (hf : mi_at t n f (k + 1 + r + dn)) (hj : j ≤ 3) : mi_wy N R t k (mi_lab h f j) (mt_jv j r dy dn) := by
  rcases j with _ | _ | _ | _ | j
  · intro T _ _; rfl
  · intro T _ _; rfl
  · have := mi_wy_at (N := N) (R := R) (k := k) h35 hh (by omega)
    rw [show k + 1 + r + dy - k - 1 = r + dy by omega] at this
    exact this
  · have := mi_wy_at (N := N) (R := R) (k := k) h35 hf (by omega)
    rw [show k + 1 + r + dn - k - 1 = r + dn by omega] at this
    exact this
  · omega
theorem mi_rv_leaf {t : mw_T} {n c dy dn : Nat} {h f : Int32} {L : mi_P} (h35 : t.1 49 35 = nI n) (hL : mt_wf L) (hg : mi_gs t c h f L) (hh : mi_at t n h (c + L.length + dy)) (hf : mi_at t n f (c + L.length + dn)) : mi_rv N R t c (mt_rs L dy dn) := by
  intro k z hz
  obtain ⟨y, h1, rfl⟩ := mt_rs_get L dy dn k z hz
  obtain ⟨a1, a2, a3, a4⟩ := hg k y h1
  obtain ⟨b1, b2⟩ := mt_wf_get hL k y h1
  have hk : k < L.length := (List.getElem?_eq_some_iff.mp h1).1
  have e1 : c + L.length + dy = c + k + 1 + (L.length - k - 1) + dy := by omega
  have e2 : c + L.length + dn = c + k + 1 + (L.length - k - 1) + dn := by omega
  rw [e1] at hh
  rw [e2] at hf
  refine ⟨a1, ?_, ?_, a4⟩
  · rw [a2]; exact mi_wy_lab h35 hh hf b1
  · rw [a3]; exact mi_wy_lab h35 hh hf b2
theorem mt_EM_fl {t : mw_T} : ∀ (X : mt_T), mt_C X → ∀ b c, mt_EM t b c X → t.1 62 (mt_fl b X) = nI c := by
  intro X hX
  refine mt_Cind (P := fun X => ∀ b c, mt_EM t b c X → t.1 62 (mt_fl b X) = nI c) ?_ ?_ ?_ ?_ ?_ X hX
  · intro k a n m l r hk hl hr ih1 ih2 b c hp
    rw [mt_EM_nd] at hp
    rw [mt_fl_nd, if_pos (by omega)]
    exact ih1 b c (hp.1 hk).1
  · intro a n m l hl ih b c hp
    rw [mt_EM_nd] at hp
    rw [mt_fl_nd, if_pos (by omega)]
    exact ih b c (hp.2.1 rfl)
  · intro a n m l r _ _ _ _ b c hp
    rw [mt_EM_nd] at hp
    rw [mt_fl_nd, if_neg (by omega)]
    exact (hp.2.2 (by omega)).1
  · intro a n m _ _ b c hp
    rw [mt_EM_nd] at hp
    rw [mt_fl_nd, if_neg (by omega)]
    exact (hp.2.2 (by omega)).1
  · intro k a n m hk _ _ _ b c hp
    rw [mt_EM_nd] at hp
    rw [mt_fl_nd, if_neg (by omega)]
    exact (hp.2.2 (by omega)).1
theorem mt_rv {t : mw_T} {n : Nat} (h35 : t.1 49 35 = nI n) : ∀ (X : mt_T), mt_C X → ∀ (b c dy dn : Nat) (h f : Int32), mt_LB 0 t b X h f → mt_EM t b c X → b + mt_sz X ≤ 170 → mi_at t n h (c + (mt_gf X).length + dy) → mi_at t n f (c + (mt_gf X).length + dn) → mi_rv N R t c (mt_ge X dy dn) := by
  have leaf : ∀ (k a m m' : Nat) (l r : mt_T), 8 ≤ k → mt_C (mt_nd k a m m' l r) → ∀ (b c dy dn : Nat) (h f : Int32), mt_LB 0 t b (mt_nd k a m m' l r) h f → mt_EM t b c (mt_nd k a m m' l r) → b + mt_sz (mt_nd k a m m' l r) ≤ 170 → mi_at t n h (c + (mt_gf (mt_nd k a m m' l r)).length + dy) → mi_at t n f (c + (mt_gf (mt_nd k a m m' l r)).length + dn) → mi_rv N R t c (mt_ge (mt_nd k a m m' l r) dy dn) := by
    intro k a m m' l r hk hC b c dy dn h f hl he hb h1 h2
    rw [mt_LB_nd] at hl
    rw [mt_EM_nd] at he
    rw [mt_gf_nd, if_neg (by omega), if_neg (by omega)] at h1 h2
    rw [mt_ge_nd, if_neg (by omega), if_neg (by omega), if_neg (by omega)]
    obtain ⟨_, g⟩ := he.2.2 hk
    simp only [Nat.add_zero] at hl
    rw [hl.1, hl.2.1] at g
    exact mi_rv_leaf h35 (mt_wf_L hk hC (by omega)) g h1 h2
  intro X hX
  refine mt_Cind (P := fun X => ∀ (b c dy dn : Nat) (h f : Int32), mt_LB 0 t b X h f → mt_EM t b c X → b + mt_sz X ≤ 170 → mi_at t n h (c + (mt_gf X).length + dy) → mi_at t n f (c + (mt_gf X).length + dn) → mi_rv N R t c (mt_ge X dy dn)) ?_ ?_ ?_ ?_ ?_ X hX
  · intro k a m m' l r hk hl hr ih1 ih2 b c dy dn h f hL he hb h1 h2
    rw [mt_sz_nd] at hb
    rw [mt_LB_nd] at hL
    rw [mt_EM_nd] at he
    obtain ⟨e1, e2⟩ := he.1 hk
    obtain ⟨-, -, q5, q6, -⟩ := hL
    rw [mt_gf_nd, if_pos hk, List.length_append] at h1 h2
    have hfl := mt_fl_lt hr (b + mt_sz l)
    have hat : mi_at t n (nI (mt_fl (b + mt_sz l) r)) (c + (mt_gf l).length + 0) := Or.inr (Or.inr ⟨_, by omega, rfl, mt_EM_fl r hr _ _ e2⟩)
    have hrr := ih2 (b + mt_sz l) (c + (mt_gf l).length) dy dn h f (by rcases hk with rfl | rfl; exact (q5 rfl).2; exact (q6 rfl).2) e2 (by omega) (by rw [Nat.add_assoc c]; exact h1) (by rw [Nat.add_assoc c]; exact h2)
    rw [mt_ge_nd]
    have lenr := (mt_ge_gf r hr dy dn).1
    rcases hk with rfl | rfl
    · rw [if_pos rfl]
      refine mi_rv_app (ih1 b c 0 (dn + (mt_ge r dy dn).length) _ _ (q5 rfl).1 e1 (by omega) hat ?_) ?_
      · rw [lenr, show c + (mt_gf l).length + (dn + (mt_gf r).length) = c + ((mt_gf l).length + (mt_gf r).length) + dn by omega]; exact h2
      · rw [(mt_ge_gf l hl _ _).1]; exact hrr
    · rw [if_neg (by decide), if_pos rfl]
      refine mi_rv_app (ih1 b c (dy + (mt_ge r dy dn).length) 0 _ _ (q6 rfl).1 e1 (by omega) ?_ hat) ?_
      · rw [lenr, show c + (mt_gf l).length + (dy + (mt_gf r).length) = c + ((mt_gf l).length + (mt_gf r).length) + dy by omega]; exact h1
      · rw [(mt_ge_gf l hl _ _).1]; exact hrr
  · intro a m m' l hl ih b c dy dn h f hL he hb h1 h2
    rw [mt_sz_nd] at hb
    rw [mt_LB_nd] at hL
    rw [mt_EM_nd] at he
    rw [mt_gf_nd, if_neg (by decide), if_pos rfl] at h1 h2
    rw [mt_ge_nd, if_neg (by decide), if_neg (by decide), if_pos rfl]
    exact ih b c dn dy f h (hL.2.2.2.2 rfl) (he.2.1 rfl) (by omega) h2 h1
  · intro a n m l r ha hb hl hr
    exact leaf 8 a n m l r (by omega) (by rw [mt_C_nd]; exact Or.inr (Or.inr (Or.inl ⟨rfl, ha, hb, hl, hr⟩)))
  · intro a n m ha hb
    exact leaf 9 a n m mt_0 mt_0 (by omega) (by rw [mt_C_nd]; exact Or.inr (Or.inr (Or.inr (Or.inl ⟨rfl, ha, hb, rfl, rfl⟩))))
  · intro k a n m hk ha hn hm
    exact leaf k a n m mt_0 mt_0 (by omega) (by rw [mt_C_nd]; exact Or.inr (Or.inr (Or.inr (Or.inr ⟨hk, ha, hn, hm, rfl, rfl⟩))))
end
