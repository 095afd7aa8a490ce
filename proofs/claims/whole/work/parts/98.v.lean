/-! THE PROGRAM: jumps resolved; what of it is in range -/
/-- code with symbolic jumps in which all is in range -/
def mt_wf : mi_P → Prop
  | [] => True
  | z :: L => (mi_u z.2.2.2 ∧ ((mi_plain z.1 ∧ z.2.1 = 0 ∧ z.2.2.1 = 0) ∨ (mi_test z.1 ∧ z.2.1 ≤ 3 ∧ z.2.2.1 ≤ 3 ∧ (z.2.1 = 1 ∨ z.2.2.1 = 1 → 1 ≤ L.length)))) ∧ mt_wf L
theorem mt_wf_app {A B : mi_P} (hA : mt_wf A) (hB : mt_wf B) : mt_wf (A ++ B) := by
  induction A with
  | nil => exact hB
  | cons z A ih =>
    rw [List.cons_append, mt_wf]
    rw [mt_wf] at hA
    obtain ⟨⟨h1, h2⟩, h3⟩ := hA
    refine ⟨⟨h1, ?_⟩, ih h3⟩
    rcases h2 with h2 | ⟨a, b, c, d⟩
    · exact Or.inl h2
    · refine Or.inr ⟨a, b, c, fun h => ?_⟩
      have := d h
      rw [List.length_append]; omega
theorem mt_wf_p {op x : Nat} {L : mi_P} (h : mi_plain op) (hx : x < 4294967296) (hL : mt_wf L) : mt_wf ((op, 0, 0, nL x) :: L) := by
  rw [mt_wf]; exact ⟨⟨mi_u_nL hx, Or.inl ⟨h, rfl, rfl⟩⟩, hL⟩
theorem mt_wf_t {op j1 j2 : Nat} {w : Int64} {L : mi_P} (h : mi_test op) (h1 : j1 ≤ 3) (h2 : j2 ≤ 3) (h3 : j1 = 1 ∨ j2 = 1 → 1 ≤ L.length) (hw : mi_u w) (hL : mt_wf L) : mt_wf ((op, j1, j2, w) :: L) := by
  rw [mt_wf]; exact ⟨⟨hw, Or.inr ⟨h, h1, h2, h3⟩⟩, hL⟩
theorem mt_wf_0 : mt_wf [] := by rw [mt_wf]; trivial
theorem mt_wf_V : ∀ (X : mt_T), mt_V X → ∀ c, c + mt_sz X ≤ 1000 → mt_wf (mt_gV X c) := by
  intro X hX
  refine mt_Vind (P := fun X => ∀ c, c + mt_sz X ≤ 1000 → mt_wf (mt_gV X c)) ?_ ?_ ?_ ?_ X hX
  · intro a n m hn c hc; rw [mt_gV_nd, if_pos rfl]; exact mt_wf_p (by unfold mi_plain; omega) hn mt_wf_0
  · intro a n m c hc; rw [mt_gV_nd, if_neg (by decide), if_pos rfl]; exact mt_wf_p (by unfold mi_plain; omega) (by omega) mt_wf_0
  · intro a n m l ha hn hl ih c hc
    rw [mt_sz_nd] at hc
    rw [mt_gV_nd, if_neg (by decide), if_neg (by decide), if_pos rfl]
    split
    · exact mt_wf_p (by unfold mi_plain; omega) (Nat.mod_lt _ (by omega)) mt_wf_0
    · refine mt_wf_app (ih c (by omega)) (mt_wf_app ?_ (mt_wf_p (by unfold mi_plain; omega) (by omega) (mt_wf_p (by unfold mi_plain; omega) (by unfold mq_b0; split <;> omega) mt_wf_0)))
      split
      · exact mt_wf_p (by unfold mi_plain; omega) (by omega) (mt_wf_p (by unfold mi_plain; omega) (by omega) (mt_wf_p (by unfold mi_plain; omega) (by omega) (mt_wf_p (by unfold mi_plain; omega) (by omega) mt_wf_0)))
      · exact mt_wf_0
  · intro a n m l r ha hl hr ih1 ih2 c hc
    have := mt_V_pos hr
    rw [mt_sz_nd] at hc
    rw [mt_gV_nd, if_neg (by decide), if_neg (by decide), if_neg (by decide)]
    split
    · rename_i hN
      exact mt_wf_app (ih1 c (by omega)) (mt_wf_p (by unfold mi_plain; omega) (mt_num_lt hr hN) mt_wf_0)
    · exact mt_wf_app (ih2 c (by omega)) (mt_wf_app (mt_wf_p (by unfold mi_plain; omega) (by omega) mt_wf_0) (mt_wf_app (ih1 _ (by omega)) (mt_wf_app (mt_wf_p (by unfold mi_plain; omega) (by omega) mt_wf_0) (mt_wf_p (by unfold mi_plain; omega) (by omega) mt_wf_0))))
theorem mt_wf_P (p jy : Nat) (h : jy = 0 ∨ jy = 2) : mt_wf (mt_gP p jy) := by
  unfold mt_gP
  split
  · exact mt_wf_p (by unfold mi_plain; omega) (by omega) (mt_wf_t (by unfold mi_test; omega) (by omega) (by omega) (fun h => by omega) (mi_u_nL (by omega)) mt_wf_0)
  · refine mt_wf_p (by unfold mi_plain; omega) (by omega) (mt_wf_t (by unfold mi_test; omega) (by omega) (by omega) (fun h => by omega) (mi_u_nL (by omega)) (mt_wf_p (by unfold mi_plain; omega) (by omega) (mt_wf_t (by unfold mi_test; omega) (by omega) (by omega) (fun h => by omega) ?_ mt_wf_0)))
    unfold mq_no
    split <;> exact mi_u_nL (by omega)
theorem mt_wf_W : mt_wf mt_gW := mt_wf_p (by unfold mi_plain; omega) (by omega) (mt_wf_t (by unfold mi_test; omega) (by omega) (by omega) (fun h => by omega) (mi_u_nL (by omega)) mt_wf_0)
theorem mt_wf_E (k ld p jn : Nat) {w m : Int64} (hl : ld ≤ 12) (hp : p < 100) (hj : jn = 0 ∨ jn = 3) (hw : mi_u w) (hm : mi_u m) : mt_wf (mt_gE k ld p jn w m) := by
  unfold mt_gE
  refine mt_wf_app (mt_wf_app (mt_wf_p (by unfold mi_plain; omega) (by omega) mt_wf_0) ?_) (mt_wf_t (by unfold mi_test; omega) (by omega) (by omega) (fun h => by omega) (mi_u_and hw hm) mt_wf_0)
  split
  · obtain ⟨m', h1, rfl⟩ := hm
    exact mt_wf_p (by unfold mi_plain; omega) h1 mt_wf_0
  · exact mt_wf_0
theorem mt_wf_Es (k ld p q e : Nat) {w m : Int64} (hl : ld ≤ 12) (hp : p < 100) (hq : q < 100) (hw : mi_u w) (hm : mi_u m) : mt_wf (mt_gEs k ld p q e w m) := by
  unfold mt_gEs
  split
  · exact mt_wf_E k ld p 3 hl hp (by omega) hw hm
  split
  · exact mt_wf_E k ld q 3 hl hq (by omega) hw hm
  · exact mt_wf_app (mt_wf_E k ld p 0 hl hp (by omega) hw hm) (mt_wf_E k ld q 3 hl hq (by omega) hw hm)
theorem mi_u_nm (k bits : Nat) : mi_u (mq_nm k bits) := by
  unfold mq_nm
  split
  · unfold mq_mask
    exact mi_u_mask _
  · exact mi_u_nL (n := 4294967295) (by omega)
theorem mt_wf_C (a : Nat) {l r : mt_T} (ha : 8 ≤ a) (hb : a ≤ 13) (hl : mt_V l) (hr : mt_V r) (hs : mt_sz l + mt_sz r ≤ 900) : mt_wf (mt_gC a l r) := by
  unfold mt_gC
  split
  · rename_i hN
    refine mt_wf_app (mt_wf_V l hl 0 (by omega)) (mt_wf_t (by unfold mi_test; omega) ?_ ?_ (fun h => ?_) (mi_u_nL (mt_num_lt hr hN)) mt_wf_0)
    · split <;> omega
    · split <;> omega
    · exfalso; revert h; split <;> omega
  · unfold mt_gT
    refine mt_wf_app (mt_wf_app (mt_wf_V r hr 0 (by omega)) (mt_wf_app (mt_wf_p (by unfold mi_plain; omega) (by omega) mt_wf_0) (mt_wf_app (mt_wf_V l hl 1 (by omega)) (mt_wf_p (by unfold mi_plain; omega) (by omega) mt_wf_0)))) (mt_wf_t (by unfold mi_test; omega) ?_ ?_ (fun h => ?_) (mi_u_nL (by omega)) mt_wf_0)
    · split <;> omega
    · split <;> omega
    · exfalso; revert h; split <;> omega
theorem mt_wf_L {k a n m : Nat} {l r : mt_T} (hk : 8 ≤ k) (h : mt_C (mt_nd k a n m l r)) (hs : mt_sz (mt_nd k a n m l r) ≤ 900) : mt_wf (mt_gL k a n m l r) := by
  rw [mt_sz_nd] at hs
  rw [mt_C_nd] at h
  unfold mt_gL
  rcases h with ⟨h, _⟩ | ⟨h, _⟩ | ⟨rfl, ha, hb, hl, hr⟩ | ⟨rfl, ha, hb, rfl, rfl⟩ | ⟨h, ha, hn, hm, rfl, rfl⟩
  · omega
  · omega
  · rw [if_pos rfl]
    refine mt_wf_app ?_ (mt_wf_app ?_ (mt_wf_app ?_ (mt_wf_C a ha hb hl hr (by omega))))
    · split
      · exact mt_wf_P 1 0 (by omega)
      · exact mt_wf_0
    · split
      · exact mt_wf_app (mt_wf_P 2 0 (by omega)) mt_wf_W
      · exact mt_wf_0
    · split
      · exact mt_wf_app (mt_wf_P 3 0 (by omega)) mt_wf_W
      · exact mt_wf_0
  · rw [if_neg (by decide), if_pos rfl]
    exact mt_wf_P a 2 (by omega)
  · rw [if_neg (by omega), if_neg (by omega)]
    split
    · refine mt_wf_app (mt_wf_P 1 0 (by omega)) (mt_wf_app (mt_wf_p (by unfold mi_plain; omega) (by omega) mt_wf_0) ?_)
      rw [List.singleton_append]
      refine mt_wf_t (by unfold mi_test; omega) (by omega) (by omega) (fun _ => ?_) (mi_u_nL (by omega)) (mt_wf_app (mt_wf_t (by unfold mi_test; omega) (by omega) (by omega) (fun h => by omega) (mi_u_nL (by omega)) mt_wf_0) (mt_wf_app mt_wf_W (mt_wf_app (mt_wf_p (by unfold mi_plain; omega) (by omega) mt_wf_0) (mt_wf_Es _ _ _ _ _ (by omega) (by omega) (by omega) (mi_u_nL hn) (mi_u_nm _ _)))))
      rw [List.length_append, List.length_singleton]; omega
    · exact mt_wf_app (mt_wf_P 1 0 (by omega)) (mt_wf_Es _ _ _ _ _ (by omega) (by omega) (by omega) (mi_u_nL hn) (mi_u_nm _ _))
/-- resolved code of which m instructions come behind -/
def mt_ok : mi_P → Nat → Prop
  | [], _ => True
  | z :: L, m => (mi_u z.2.2.2 ∧ (mi_plain z.1 ∨ (mi_test z.1 ∧ z.2.1 < L.length + m ∧ z.2.2.1 < L.length + m))) ∧ mt_ok L m
theorem mt_ok_app {A B : mi_P} {m : Nat} (hA : mt_ok A (B.length + m)) (hB : mt_ok B m) : mt_ok (A ++ B) m := by
  induction A with
  | nil => exact hB
  | cons z A ih =>
    rw [List.cons_append, mt_ok]
    rw [mt_ok] at hA
    obtain ⟨⟨h1, h2⟩, h3⟩ := hA
    refine ⟨⟨h1, ?_⟩, ih h3⟩
    rw [List.length_append]
    rcases h2 with h2 | ⟨a, b, c⟩
    · exact Or.inl h2
    · exact Or.inr ⟨a, by omega, by omega⟩
theorem mt_ok_rs {L : mi_P} {m dy dn : Nat} (h : mt_wf L) (h1 : dy < m) (h2 : dn < m) : mt_ok (mt_rs L dy dn) m := by
  induction L with
  | nil => rw [mt_rs, mt_ok]; trivial
  | cons z L ih =>
    rw [mt_wf] at h
    obtain ⟨⟨h3, h4⟩, h5⟩ := h
    rw [mt_rs, mt_ok]
    refine ⟨⟨h3, ?_⟩, ih h5⟩
    rcases h4 with h4 | ⟨a, b, c, d⟩
    · exact Or.inl h4.1
    · refine Or.inr ⟨a, ?_, ?_⟩
      · rw [mt_rs_len]
        simp only [mt_jv]
        split
        · omega
        split
        · omega
        · by_cases e : z.2.1 = 1
          · have := d (Or.inl e); omega
          · omega
      · rw [mt_rs_len]
        simp only [mt_jv]
        split
        · omega
        split
        · omega
        · by_cases e : z.2.2.1 = 1
          · have := d (Or.inr e); omega
          · omega
theorem mt_ok_ge : ∀ (X : mt_T), mt_C X → ∀ (dy dn m : Nat), mt_sz X ≤ 900 → dy < m → dn < m → mt_ok (mt_ge X dy dn) m := by
  have leaf : ∀ (k a n m' : Nat) (l r : mt_T), 8 ≤ k → mt_C (mt_nd k a n m' l r) → ∀ (dy dn m : Nat), mt_sz (mt_nd k a n m' l r) ≤ 900 → dy < m → dn < m → mt_ok (mt_ge (mt_nd k a n m' l r) dy dn) m := by
    intro k a n m' l r hk hC dy dn m hs h1 h2
    rw [mt_ge_nd, if_neg (by omega), if_neg (by omega), if_neg (by omega)]
    exact mt_ok_rs (mt_wf_L hk hC hs) h1 h2
  intro X hX
  refine mt_Cind (P := fun X => ∀ (dy dn m : Nat), mt_sz X ≤ 900 → dy < m → dn < m → mt_ok (mt_ge X dy dn) m) ?_ ?_ ?_ ?_ ?_ X hX
  · intro k a n m' l r hk hl hr ih1 ih2 dy dn m hs h1 h2
    rw [mt_sz_nd] at hs
    rw [mt_ge_nd]
    rcases hk with rfl | rfl
    · rw [if_pos rfl]
      exact mt_ok_app (ih1 _ _ _ (by omega) (by omega) (by omega)) (ih2 _ _ _ (by omega) h1 h2)
    · rw [if_neg (by decide), if_pos rfl]
      exact mt_ok_app (ih1 _ _ _ (by omega) (by omega) (by omega)) (ih2 _ _ _ (by omega) h1 h2)
  · intro a n m' l hl ih dy dn m hs h1 h2
    rw [mt_sz_nd] at hs
    rw [mt_ge_nd, if_neg (by decide), if_neg (by decide), if_pos rfl]
    exact ih _ _ _ (by omega) h2 h1
  · intro a n m l r ha hb hl hr
    exact leaf 8 a n m l r (by omega) (by rw [mt_C_nd]; exact Or.inr (Or.inr (Or.inl ⟨rfl, ha, hb, hl, hr⟩)))
  · intro a n m ha hb
    exact leaf 9 a n m mt_0 mt_0 (by omega) (by rw [mt_C_nd]; exact Or.inr (Or.inr (Or.inr (Or.inl ⟨rfl, ha, hb, rfl, rfl⟩))))
  · intro k a n m hk ha hn hm
    exact leaf k a n m mt_0 mt_0 (by omega) (by rw [mt_C_nd]; exact Or.inr (Or.inr (Or.inr (Or.inr ⟨hk, ha, hn, hm, rfl, rfl⟩))))
theorem mt_ok_get {L : mi_P} {m : Nat} (h : mt_ok L m) : ∀ k z, L[k]? = some z → mi_u z.2.2.2 ∧ (mi_plain z.1 ∨ (mi_test z.1 ∧ k + z.2.1 + 1 < L.length + m ∧ k + z.2.2.1 + 1 < L.length + m)) := by
  induction L with
  | nil => intro k z hz; simp at hz
  | cons y L ih =>
    rw [mt_ok] at h
    obtain ⟨⟨h1, h2⟩, h3⟩ := h
    intro k z hz
    rcases k with _ | k
    · simp only [List.getElem?_cons_zero, Option.some.injEq] at hz
      subst hz
      refine ⟨h1, ?_⟩
      rcases h2 with h2 | ⟨a, b, c⟩
      · exact Or.inl h2
      · exact Or.inr ⟨a, by simp only [List.length_cons]; omega, by simp only [List.length_cons]; omega⟩
    · rw [List.getElem?_cons_succ] at hz
      obtain ⟨g1, g2⟩ := ih h3 k z hz
      refine ⟨g1, ?_⟩
      rcases g2 with g2 | ⟨a, b, c⟩
      · exact Or.inl g2
      · exact Or.inr ⟨a, by simp only [List.length_cons]; omega, by simp only [List.length_cons]; omega⟩
/-- the whole program of a filter -/
def mt_prog (X : mt_T) (w : Int64) : mi_P := mt_ge X 0 1 ++ [(60, 0, 0, w), (60, 0, 0, 0)]
theorem mt_prog_len {X : mt_T} (hX : mt_C X) (w : Int64) : (mt_prog X w).length = (mt_gf X).length + 2 := by
  unfold mt_prog
  rw [List.length_append, (mt_ge_gf X hX 0 1).1]; rfl
theorem mt_okP {X : mt_T} (hX : mt_C X) (hs : mt_sz X ≤ 900) {w : Int64} (hw : mi_u w) (hb : mi_bd 0 false (mt_gf X) = false) : mi_okP (mt_prog X w) := by
  have hlen := (mt_ge_gf X hX 0 1).1
  have hokl := (mt_ge_gf X hX 0 1).2
  unfold mi_bd at hb
  simp only [Bool.false_or, Bool.or_eq_false_iff, Bool.not_eq_false', decide_eq_false_iff_not, Nat.zero_add] at hb
  obtain ⟨hb1, hb2⟩ := hb
  refine ⟨by rw [mt_prog_len hX]; omega, fun k z hz => ?_⟩
  rw [mt_prog_len hX]
  unfold mt_prog at hz
  by_cases hk : k < (mt_ge X 0 1).length
  · rw [List.getElem?_append_left hk] at hz
    obtain ⟨g1, g2⟩ := mt_ok_get (mt_ok_ge X hX 0 1 2 hs (by omega) (by omega)) k z hz
    refine ⟨g1, Or.inr ?_⟩
    rcases g2 with g2 | ⟨a, b, c⟩
    · refine Or.inl ⟨g2, by omega, fun hc => ?_⟩
      rw [← hokl] at hb1
      unfold mi_okl at hb1
      rw [List.all_eq_true] at hb1
      have := hb1 z (List.mem_of_getElem? hz)
      rw [decide_eq_true hc, Bool.not_true, Bool.false_or, decide_eq_true_iff] at this
      exact this
    · exact Or.inr ⟨a, by omega, by omega⟩
  · rw [List.getElem?_append_right (by omega)] at hz
    rcases hj : k - (mt_ge X 0 1).length with _ | _ | j
    · rw [hj] at hz
      simp only [List.getElem?_cons_zero, Option.some.injEq] at hz
      subst hz
      exact ⟨hw, Or.inl rfl⟩
    · rw [hj] at hz
      simp only [Nat.zero_add, List.getElem?_cons_succ, List.getElem?_cons_zero, Option.some.injEq] at hz
      subst hz
      exact ⟨mi_u_nL (n := 0) (by omega), Or.inl rfl⟩
    · rw [hj] at hz
      simp at hz
