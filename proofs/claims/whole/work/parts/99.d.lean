/-! WHAT THE PARSER GIVES -/
def mk_ok (L : mk_L) (X : mt_T × mk_L) : Prop := mt_V X.1 ∧ mt_sz X.1 + X.2.length ≤ L.length ∧ mt_tk X.1 + 2 + 3 * X.2.length ≤ 3 * L.length
theorem mt_tk_nd' (k a n m : Nat) (l r : mt_T) : mt_tk (mt_nd k a n m l r) = if k = 3 then 7 + mt_tk l else if k = 4 then 5 + (mt_tk l + mt_tk r) else 1 := by rw [mt_nd, mt_tk]
theorem mk_num_val {hi : Nat} {L : mk_L} {x : Nat × mk_L} (h : mk_num hi L = some x) : x.1 ≤ hi := by
  unfold mk_num at h
  split at h
  · rename_i hh
    cases h
    exact hh.2
  · cases h
theorem mk_size_val {L : mk_L} {x : Nat × mk_L} (h : mk_size L = some x) : x.1 = 1 ∨ x.1 = 2 ∨ x.1 = 4 := by
  unfold mk_size at h
  split at h
  · simp only [Option.bind_eq_some_iff] at h
    obtain ⟨v, h1, h2⟩ := h
    have := mk_num_val h1
    split at h2
    · cases h2
    · simp only [Option.bind_eq_some_iff] at h2
      obtain ⟨L1, h2, h3⟩ := h2
      cases h3
      simp only
      omega
  · simp only [Option.bind_eq_some_iff] at h
    obtain ⟨L1, h2, h3⟩ := h
    cases h3
    exact Or.inl rfl
theorem mk_addr_val {L : mk_L} {x : Nat × mk_L} (h : mk_addr L = some x) : x.1 < 4294967296 := by
  unfold mk_addr at h
  simp only [Option.bind_eq_some_iff] at h
  obtain ⟨a, h1, L1, h2, b, h3, L2, h4, c, h5, L3, h6, d, h7, h8⟩ := h
  cases h8
  have := mk_num_val h1
  have := mk_num_val h3
  have := mk_num_val h5
  have := mk_num_val h7
  simp only
  omega
theorem mk_pr_le {k : Nat} (h : mk_pr k ≠ 9) : mk_pr k ≤ 3 := by
  rcases mk_pr9 k h with rfl | rfl | rfl | rfl <;> decide
theorem mk_sg_le (k : Nat) : mk_sg k ≤ 7 := by
  unfold mk_sg
  split
  · omega
  split
  · omega
  split
  · omega
  split
  · omega
  split
  · omega
  split
  · omega
  split <;> omega
theorem mk_rl_le {k : Nat} (h : mk_rl k ≠ 0) : 8 ≤ mk_rl k ∧ mk_rl k ≤ 13 := by
  unfold mk_rl at h ⊢
  split
  · omega
  split
  · omega
  split
  · omega
  split
  · omega
  split
  · omega
  split
  · omega
  · simp_all
theorem mk_item_ok {rM : Nat → Nat → mk_L → Option (mt_T × mk_L)} (hM : ∀ w d L X, 1 ≤ w → rM w d L = some X → mk_ok L X) {d : Nat} {L : mk_L} {X : mt_T × mk_L} (h : mk_item rM d L = some X) : mk_ok L X := by
  unfold mk_item at h
  split at h
  · rw [Option.bind_eq_some_iff] at h
    obtain ⟨v, h1, h2⟩ := h
    cases h2
    have a1 := mk_num_len h1
    have a2 := mk_num_val h1
    refine ⟨?_, ?_, ?_⟩
    · rw [mt_V_nd]; exact Or.inl ⟨rfl, by omega, rfl, rfl⟩
    · simp only [mt_sz_nd, mt_sz_0]; omega
    · simp only [mt_tk_nd', if_neg (show ¬ (1 = 3) by omega), if_neg (show ¬ (1 = 4) by omega)]; omega
  split at h
  · have a1 := mk_len (L := L) (by omega)
    cases h
    refine ⟨?_, ?_, ?_⟩
    · rw [mt_V_nd]; exact Or.inr (Or.inl ⟨rfl, rfl, rfl⟩)
    · simp only [mt_sz_nd, mt_sz_0]; omega
    · simp only [mt_tk_nd', if_neg (show ¬ (2 = 3) by omega), if_neg (show ¬ (2 = 4) by omega)]; omega
  split at h
  · have a1 := mk_len (L := L) (by omega)
    split at h
    · cases h
    · simp only [Option.bind_eq_some_iff] at h
      obtain ⟨Y, h1, L1, h2, h3⟩ := h
      cases h3
      obtain ⟨b1, b2, b3⟩ := hM _ _ _ _ (by omega) h1
      have a2 := mk_ex_len (by omega) h2
      exact ⟨b1, by simp only; omega, by simp only; omega⟩
  split at h
  · cases h
  · rename_i hp
    have := mk_pr9 _ hp
    have a1 := mk_len (L := L) (by omega)
    rw [Option.bind_eq_some_iff] at h
    obtain ⟨L1, h1, h⟩ := h
    have a2 := mk_ex_len (by omega) h1
    split at h
    · cases h
    · simp only [Option.bind_eq_some_iff] at h
      obtain ⟨Y, h2, b, h3, h4⟩ := h
      cases h4
      obtain ⟨b1, b2, b3⟩ := hM _ _ _ _ (by omega) h2
      have a3 := mk_size_len h3
      have a4 := mk_size_val h3
      refine ⟨?_, ?_, ?_⟩
      · rw [mt_V_nd]; exact Or.inr (Or.inr (Or.inl ⟨rfl, mk_pr_le hp, a4, b1, rfl⟩))
      · simp only [mt_sz_nd, mt_sz_0]; omega
      · simp only [mt_tk_nd', if_true]; omega
theorem mk_vl_ok {rM : Nat → Nat → mk_L → Option (mt_T × mk_L)} (hM : ∀ w d L X, 1 ≤ w → rM w d L = some X → mk_ok L X) {w d : Nat} (hw : 1 ≤ w) : ∀ (g : Nat) (X : mt_T) (L : mk_L) (Y : mt_T × mk_L), mt_V X → mk_vl rM w d g X L = some Y → mt_V Y.1 ∧ mt_sz Y.1 + Y.2.length ≤ mt_sz X + L.length ∧ mt_tk Y.1 + 3 * Y.2.length ≤ mt_tk X + 3 * L.length ∧ mk_str (mk_hd Y.2) < w := by
  intro g
  induction g with
  | zero => intro X L Y _ h; cases h
  | succ g ih =>
    intro X L Y hX h
    rw [mk_vl] at h
    split at h
    · rename_i hs
      cases h
      exact ⟨hX, Nat.le_refl _, Nat.le_refl _, hs⟩
    · rename_i hs
      have a1 := mk_len (L := L) (fun e => by rw [e] at hs; exact hs (show 0 < w by omega))
      rw [Option.bind_eq_some_iff] at h
      obtain ⟨Z, h1, h2⟩ := h
      obtain ⟨b1, b2, b3⟩ := hM _ _ _ _ (by omega) h1
      obtain ⟨c1, c2, c3, c4⟩ := ih _ _ _ (by rw [mt_V_nd]; exact Or.inr (Or.inr (Or.inr ⟨rfl, mk_sg_le _, hX, b1⟩))) h2
      rw [mt_sz_nd] at c2
      rw [mt_tk_nd', if_neg (by omega), if_pos rfl] at c3
      exact ⟨c1, by omega, by omega, c4⟩
theorem mk_val_ok : ∀ (f w d : Nat) (L : mk_L) (X : mt_T × mk_L), 1 ≤ w → mk_val f w d L = some X → mk_ok L X ∧ mk_str (mk_hd X.2) < w := by
  intro f
  induction f with
  | zero => intro w d L X _ h; cases h
  | succ f ih =>
    intro w d L X hw h
    rw [mk_val, Option.bind_eq_some_iff] at h
    obtain ⟨Y, h1, h2⟩ := h
    obtain ⟨a1, a2, a3⟩ := mk_item_ok (fun w d L X hw h => (ih w d L X hw h).1) h1
    obtain ⟨b1, b2, b3, b4⟩ := mk_vl_ok (fun w d L X hw h => (ih w d L X hw h).1) hw _ _ _ _ a1 h2
    exact ⟨⟨b1, by omega, by omega⟩, b4⟩
theorem mm_iv_V {X : mt_T} (h : mt_V X) : mm_iv X = true := by
  refine mt_Vind (P := fun X => mm_iv X = true) ?_ ?_ ?_ ?_ X h
  all_goals intros; rw [mm_iv_nd]; rfl
theorem mm_iv_C {X : mt_T} (h : mt_C X) : mm_iv X = false := by
  refine mt_Cind (P := fun X => mm_iv X = false) ?_ ?_ ?_ ?_ ?_ X h
  · intro k a n m l r hk _ _ _ _
    rw [mm_iv_nd]
    rcases hk with rfl | rfl <;> rfl
  · intros; rw [mm_iv_nd]; rfl
  · intros; rw [mm_iv_nd]; rfl
  · intros; rw [mm_iv_nd]; rfl
  · intro k a n m hk _ _ _
    rw [mm_iv_nd]
    rcases hk with rfl | rfl | rfl <;> rfl
/-! conditions -/
def mt_eqv (X Y : mt_T) : Prop := (∀ pk n, mt_cS pk n X = mt_cS pk n Y) ∧ ∀ dy dn, mt_ge X dy dn = mt_ge Y dy dn
theorem mt_eqv_rf (X : mt_T) : mt_eqv X X := ⟨fun _ _ => rfl, fun _ _ => rfl⟩
theorem mt_eqv_tr {X Y Z : mt_T} (h : mt_eqv X Y) (g : mt_eqv Y Z) : mt_eqv X Z := ⟨fun pk n => (h.1 pk n).trans (g.1 pk n), fun a b => (h.2 a b).trans (g.2 a b)⟩
theorem mt_eqv_7 {X Y : mt_T} (h : mt_eqv X Y) : mt_eqv (mt_nd 7 0 0 0 X mt_0) (mt_nd 7 0 0 0 Y mt_0) := by
  refine ⟨fun pk n => ?_, fun a b => ?_⟩
  · rw [mt_cS_nd, mt_cS_nd, if_neg (by decide), if_neg (by decide), if_pos rfl, if_neg (by decide), if_neg (by decide), if_pos rfl, h.1]
  · rw [mt_ge_nd, mt_ge_nd, if_neg (by decide), if_neg (by decide), if_pos rfl, if_neg (by decide), if_neg (by decide), if_pos rfl, h.2]
theorem mt_eqv_77 (X : mt_T) : mt_eqv X (mt_nd 7 0 0 0 (mt_nd 7 0 0 0 X mt_0) mt_0) := by
  refine ⟨fun pk n => ?_, fun a b => ?_⟩
  · rw [mt_cS_nd, mt_cS_nd, if_neg (by decide), if_neg (by decide), if_pos rfl, if_neg (by decide), if_neg (by decide), if_pos rfl]
    cases mt_cS pk n X with
    | none => rfl
    | some b => simp
  · rw [mt_ge_nd, if_neg (by decide), if_neg (by decide), if_pos rfl, mt_ge_nd, if_neg (by decide), if_neg (by decide), if_pos rfl]
theorem mt_eqv_j {j : Nat} (hj : j = 5 ∨ j = 6) {X Y X' Y' : mt_T} (h : mt_eqv X Y) (g : mt_eqv X' Y') : mt_eqv (mt_nd j 0 0 0 X X') (mt_nd j 0 0 0 Y Y') := by
  refine ⟨fun pk n => ?_, fun a b => ?_⟩
  · rw [mt_cS_nd, mt_cS_nd, h.1, g.1]
    rcases hj with rfl | rfl
    · rw [if_pos rfl, if_pos rfl]
    · rw [if_neg (by decide), if_pos rfl, if_neg (by decide), if_pos rfl]
  · rw [mt_ge_nd, mt_ge_nd]
    rcases hj with rfl | rfl
    · rw [if_pos rfl, if_pos rfl, g.2, h.2]
    · rw [if_neg (by decide), if_pos rfl, if_neg (by decide), if_pos rfl, g.2, h.2]
def mk_ok2 (b : Bool) (L : mk_L) (X : mk_P2) : Prop := mt_C X.1.1 ∧ mt_C X.1.2 ∧ mt_sz X.1.1 ≤ mt_sz X.1.2 + (if b then 1 else 0) ∧ mt_sz X.1.2 + X.2.length ≤ L.length ∧ (L.length ≤ 300 → mt_kk X.1.2) ∧ mt_eqv X.1.1 (if b then mt_nd 7 0 0 0 X.1.2 mt_0 else X.1.2)
theorem mt_C_7 {X : mt_T} (h : mt_C X) : mt_C (mt_nd 7 0 0 0 X mt_0) := by rw [mt_C_nd]; exact Or.inr (Or.inl ⟨rfl, h, rfl⟩)
theorem mk_ok2_leaf {L : mk_L} {X : mt_T × mk_L} (h1 : mt_C X.1) (h2 : mt_sz X.1 + X.2.length ≤ L.length) (h3 : L.length ≤ 300 → mt_kk X.1) : mk_ok2 false L (mk_two X) := ⟨h1, h1, Nat.le_refl _, h2, h3, mt_eqv_rf _⟩
theorem mk_prim_ok {a : Nat} (ha : a = 1 ∨ a = 2 ∨ a = 3) {L : mk_L} {X : mt_T × mk_L} (h : mk_prim a L = some X) : mt_C X.1 ∧ mt_sz X.1 + X.2.length ≤ L.length ∧ mt_kk X.1 := by
  have hl := mk_prim_len h
  have key : ∃ k n m, (k = 10 ∨ k = 11 ∨ k = 12) ∧ n < 4294967296 ∧ m ≤ 32 ∧ X.1 = mt_nd k a n m mt_0 mt_0 := by
    unfold mk_prim at h
    split at h
    · simp only [Option.bind_eq_some_iff] at h
      obtain ⟨v, h1, h2⟩ := h
      cases h2
      exact ⟨10, _, 0, by omega, mk_addr_val h1, by omega, rfl⟩
    split at h
    · simp only [Option.bind_eq_some_iff] at h
      obtain ⟨v, h1, L1, h2, b, h3, h4⟩ := h
      cases h4
      exact ⟨11, _, _, by omega, mk_addr_val h1, mk_num_val h3, rfl⟩
    split at h
    · simp only [Option.bind_eq_some_iff] at h
      obtain ⟨v, h1, h2⟩ := h
      cases h2
      have := mk_num_val h1
      exact ⟨12, _, 0, by omega, by omega, by omega, rfl⟩
    · cases h
  obtain ⟨k, n, m, hk, hn, hm, e⟩ := key
  rw [e]
  refine ⟨?_, ?_, ?_⟩
  · rw [mt_C_nd]; exact Or.inr (Or.inr (Or.inr (Or.inr ⟨hk, ha, hn, hm, rfl, rfl⟩)))
  · rw [mt_sz_nd, mt_sz_0]; omega
  · rw [mt_kk_nd]; exact ⟨fun h => by omega, fun h => by omega, fun h => by omega⟩
theorem mk_rel_ok {F d : Nat} {L : mk_L} {X : mt_T × mk_L} (h : mk_rel F d L = some X) : mt_C X.1 ∧ mt_sz X.1 + X.2.length ≤ L.length ∧ (L.length ≤ 300 → mt_kk X.1) := by
  unfold mk_rel at h
  rw [Option.bind_eq_some_iff] at h
  obtain ⟨Y, h1, h2⟩ := h
  split at h2
  · cases h2
  · rename_i hr
    have a1 := mk_len (L := Y.2) (fun e => by rw [e] at hr; exact hr (by decide))
    rw [Option.bind_eq_some_iff] at h2
    obtain ⟨Z, h3, h4⟩ := h2
    cases h4
    obtain ⟨⟨b1, b2, b3⟩, _⟩ := mk_val_ok _ _ _ _ _ (by omega) h1
    obtain ⟨⟨c1, c2, c3⟩, _⟩ := mk_val_ok _ _ _ _ _ (by omega) h3
    obtain ⟨r1, r2⟩ := mk_rl_le hr
    refine ⟨?_, ?_, fun hL => ?_⟩
    · rw [mt_C_nd]; exact Or.inr (Or.inr (Or.inl ⟨rfl, r1, r2, b1, c1⟩))
    · simp only [mt_sz_nd]; omega
    · rw [mt_kk_nd]; exact ⟨fun h => by omega, fun h => by omega, fun _ => ⟨by omega, by omega⟩⟩
theorem mk_uw_ok {F : Nat} {rF : Nat → mk_L → Option mk_P2} (hF : ∀ d L X, rF d L = some X → mk_ok2 false L X) {d : Nat} {L : mk_L} {X : mk_P2} (h : mk_uw F rF d L = some X) : mk_ok2 false L X := by
  unfold mk_uw at h
  split at h
  · have a1 := mk_len (L := L) (by omega)
    split at h
    · cases h
    · simp only [Option.bind_eq_some_iff] at h
      obtain ⟨Y, h1, L1, h2, h3⟩ := h
      cases h3
      have a2 := mk_ex_len (by omega) h2
      obtain ⟨b1, b2, b3, b4, b5, b6⟩ := hF _ _ _ h1
      exact ⟨b1, b2, b3, by simp only; omega, fun hL => b5 (by omega), b6⟩
  split at h
  · rename_i hp
    have a1 := mk_len (L := L) (by omega)
    cases h
    refine mk_ok2_leaf ?_ ?_ (fun _ => ?_)
    · rw [mt_C_nd]
      refine Or.inr (Or.inr (Or.inr (Or.inl ⟨rfl, ?_, ?_, rfl, rfl⟩)))
      · rcases hp.1 with e | e | e <;> (rw [e]; decide)
      · rcases hp.1 with e | e | e <;> (rw [e]; decide)
    · simp only [mt_sz_nd, mt_sz_0]; omega
    · rw [mt_kk_nd]; exact ⟨fun h => by omega, fun h => by omega, fun h => by omega⟩
  split at h
  · have a1 := mk_len (L := L) (by omega)
    rw [Option.map_eq_some_iff] at h
    obtain ⟨Y, h1, rfl⟩ := h
    obtain ⟨b1, b2, b3⟩ := mk_prim_ok (by omega) h1
    exact mk_ok2_leaf b1 (by omega) (fun _ => b3)
  split at h
  · have a1 := mk_len (L := L) (by omega)
    rw [Option.map_eq_some_iff] at h
    obtain ⟨Y, h1, rfl⟩ := h
    obtain ⟨b1, b2, b3⟩ := mk_prim_ok (by omega) h1
    exact mk_ok2_leaf b1 (by omega) (fun _ => b3)
  split at h
  · rw [Option.map_eq_some_iff] at h
    obtain ⟨Y, h1, rfl⟩ := h
    obtain ⟨b1, b2, b3⟩ := mk_prim_ok (by omega) h1
    exact mk_ok2_leaf b1 (by omega) (fun _ => b3)
  · rw [Option.map_eq_some_iff] at h
    obtain ⟨Y, h1, rfl⟩ := h
    obtain ⟨b1, b2, b3⟩ := mk_rel_ok h1
    exact mk_ok2_leaf b1 b2 b3
theorem mk_ok2_b {b : Bool} {L : mk_L} {X : mk_P2} (h : mk_ok2 false L X) : mk_ok2 b L ((if b then mt_nd 7 0 0 0 X.1.1 mt_0 else X.1.1, X.1.2), X.2) := by
  obtain ⟨b1, b2, b3, b4, b5, b6⟩ := h
  simp only [Bool.false_eq_true, if_false, Nat.add_zero] at b3 b6
  cases b with
  | true =>
    refine ⟨mt_C_7 b1, b2, ?_, b4, b5, mt_eqv_7 b6⟩
    simp only [if_true, mt_sz_nd, mt_sz_0]; omega
  | false => exact ⟨b1, b2, by simpa using b3, b4, b5, b6⟩
theorem mk_un_ok {F : Nat} {rF : Nat → mk_L → Option mk_P2} (hF : ∀ d L X, rF d L = some X → mk_ok2 false L X) {d : Nat} : ∀ (L : mk_L) (b : Bool) (X : mk_P2), mk_un F rF d b L = some X → mk_ok2 b L X := by
  intro L
  induction L with
  | nil =>
    intro b X h
    rw [mk_un, Option.bind_eq_some_iff] at h
    obtain ⟨Y, h1, h2⟩ := h
    cases h2
    exact mk_ok2_b (mk_uw_ok hF h1)
  | cons z L ih =>
    intro b X h
    rw [mk_un] at h
    split at h
    · rw [Option.bind_eq_some_iff] at h
      obtain ⟨Y, h1, h2⟩ := h
      cases h2
      obtain ⟨b1, b2, b3, b4, b5, b6⟩ := ih _ _ h1
      refine ⟨b1, mt_C_7 b2, ?_, ?_, fun hL => ?_, ?_⟩
      · simp only [mt_sz_nd, mt_sz_0]
        cases b
        · simp only [Bool.not_false, if_true] at b3; simp only [Bool.false_eq_true, if_false]; omega
        · simp only [Bool.not_true, Bool.false_eq_true, if_false] at b3; simp only [if_true]; omega
      · simp only [mt_sz_nd, mt_sz_0, List.length_cons]; omega
      · rw [List.length_cons] at hL
        rw [mt_kk_nd]; exact ⟨fun h => by omega, fun _ => b5 (by omega), fun h => by omega⟩
      · cases b
        · simpa using b6
        · simp only [Bool.not_true, Bool.false_eq_true, if_false] at b6
          exact mt_eqv_tr b6 (mt_eqv_77 _)
    · rw [Option.bind_eq_some_iff] at h
      obtain ⟨Y, h1, h2⟩ := h
      cases h2
      exact mk_ok2_b (mk_uw_ok hF h1)
theorem mk_jn_ok {k j : Nat} (hk : k ≠ 0) (hj : j = 5 ∨ j = 6) {u : mk_L → Option mk_P2} (hu : ∀ L X, u L = some X → mk_ok2 false L X) : ∀ (g : Nat) (X : mt_T × mt_T) (L : mk_L) (Y : mk_P2) (M : mk_L), mk_ok2 false M (X, L) → mk_jn k j u g X L = some Y → mk_ok2 false M Y ∧ mk_hd Y.2 ≠ k := by
  intro g
  induction g with
  | zero => intro X L Y M _ h; cases h
  | succ g ih =>
    intro X L Y M hX h
    rw [mk_jn] at h
    split at h
    · rename_i hh
      have a1 := mk_len (L := L) (by omega)
      rw [Option.bind_eq_some_iff] at h
      obtain ⟨Z, h1, h2⟩ := h
      obtain ⟨b1, b2, b3, b4, b5, b6⟩ := hu _ _ h1
      obtain ⟨c1, c2, c3, c4, c5, c6⟩ := hX
      simp only [Bool.false_eq_true, if_false, Nat.add_zero] at b3 b6 c3 c6 c4 c1 c2 c5
      refine ih _ _ _ M ⟨?_, ?_, ?_, ?_, fun hL => ?_, ?_⟩ h2
      · simp only; rw [mt_C_nd]; exact Or.inl ⟨hj, c1, b1⟩
      · simp only; rw [mt_C_nd]; exact Or.inl ⟨hj, c2, b2⟩
      · simp only [mt_sz_nd, Bool.false_eq_true, if_false, Nat.add_zero]; omega
      · simp only [mt_sz_nd]; omega
      · simp only
        rw [mt_kk_nd]; exact ⟨fun _ => ⟨c5 hL, b5 (by omega)⟩, fun h => by omega, fun h => by omega⟩
      · simp only [Bool.false_eq_true, if_false]
        exact mt_eqv_j hj c6 b6
    · rename_i hh
      cases h
      exact ⟨hX, hh⟩
theorem mk_part_ok {F : Nat} {rF : Nat → mk_L → Option mk_P2} (hF : ∀ d L X, rF d L = some X → mk_ok2 false L X) {d : Nat} {L : mk_L} {X : mk_P2} (h : mk_part F rF d L = some X) : mk_ok2 false L X ∧ mk_hd X.2 ≠ 13 := by
  unfold mk_part at h
  rw [Option.bind_eq_some_iff] at h
  obtain ⟨Y, h1, h2⟩ := h
  exact mk_jn_ok (by omega) (by omega) (fun L X h => mk_un_ok hF L false X h) _ _ _ _ _ (mk_un_ok hF L false Y h1) h2
theorem mk_jn_13 {k j : Nat} {u : mk_L → Option mk_P2} (hu : ∀ L X, u L = some X → mk_hd X.2 ≠ 13) : ∀ (g : Nat) (X : mt_T × mt_T) (L : mk_L) (Y : mk_P2), mk_hd L ≠ 13 → mk_jn k j u g X L = some Y → mk_hd Y.2 ≠ 13 := by
  intro g
  induction g with
  | zero => intro X L Y _ h; cases h
  | succ g ih =>
    intro X L Y hX h
    rw [mk_jn] at h
    split at h
    · rw [Option.bind_eq_some_iff] at h
      obtain ⟨Z, h1, h2⟩ := h
      exact ih _ _ _ (hu _ _ h1) h2
    · cases h; exact hX
theorem mk_fil_ok {F : Nat} : ∀ (f d : Nat) (L : mk_L) (X : mk_P2), mk_fil F f d L = some X → mk_ok2 false L X ∧ mk_hd X.2 ≠ 13 ∧ mk_hd X.2 ≠ 14 := by
  intro f
  induction f with
  | zero => intro d L X h; cases h
  | succ f ih =>
    intro d L X h
    rw [mk_fil, Option.bind_eq_some_iff] at h
    obtain ⟨Y, h1, h2⟩ := h
    have hF : ∀ d L X, mk_fil F f d L = some X → mk_ok2 false L X := fun d L X h => (ih d L X h).1
    obtain ⟨a1, a2⟩ := mk_part_ok hF h1
    obtain ⟨b1, b2⟩ := mk_jn_ok (by omega) (by omega) (fun L X h => (mk_part_ok hF h).1) _ _ _ _ _ a1 h2
    exact ⟨b1, mk_jn_13 (fun L X h => (mk_part_ok hF h).2) _ _ _ _ a2 h2, b2⟩
