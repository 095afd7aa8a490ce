/-! THE REFERENCE reads: measures, the loop -/
def mn_mz : Option mt_T → Nat
  | none => 0
  | some X => mt_sz X
theorem mm_red_ms (q : Nat) : ∀ (fs : mm_F) (X : mt_T) (Y : mm_F × mt_T), mm_red q fs X = some Y → mn_bd Y.1 + Y.1.length + mt_sz Y.2 = mn_bd fs + fs.length + mt_sz X := by
  intro fs
  induction fs with
  | nil => intro X Y h; rw [mm_red] at h; cases h; rfl
  | cons z fs ih =>
    intro X Y h
    rw [mm_red] at h
    by_cases g : z.1 < 100 ∧ q ≤ z.1
    · rw [if_pos g] at h
      by_cases ty : mm_ty z.1 z.2.2 X = true
      · rw [if_pos ty] at h
        rw [ih _ _ h, mn_bd, List.length_cons]
        unfold mm_nd
        by_cases g3 : z.1 = 3
        · rw [if_pos g3, if_neg (show ¬ (z.1 < 100 ∧ z.1 ≠ 3) by omega), mt_sz_nd, mt_sz_0]; omega
        · rw [if_neg g3, if_pos (show z.1 < 100 ∧ z.1 ≠ 3 from ⟨g.1, g3⟩), mt_sz_nd]; omega
      · rw [if_neg ty] at h; cases h
    · rw [if_neg g] at h; cases h; rfl
theorem mm_cl_ms {s : Nat} {v : Bool} {fs : mm_F} {X : mt_T} {Y : Nat × mm_F × mt_T} (hs : 100 ≤ s) (h : mm_cl s v fs X = some Y) : mn_bd Y.2.1 + Y.2.1.length + mt_sz Y.2.2 + 1 = mn_bd fs + fs.length + mt_sz X := by
  cases hr : mm_red 1 fs X with
  | none => rw [mm_cl, hr] at h; cases h
  | some W =>
    have hm := mm_red_ms 1 fs X W hr
    obtain ⟨gs, Z⟩ := W
    cases gs with
    | nil => rw [mm_cl_nil hr] at h; cases h
    | cons z gs =>
      rw [mm_cl_cons hr] at h
      by_cases g : z.1 = s ∧ mm_iv Z = v
      · rw [if_pos g] at h
        cases h
        simp only at hm ⊢
        rw [mn_bd, if_neg (by omega), List.length_cons] at hm
        omega
      · rw [if_neg g] at h; cases h
theorem mm_beg_ms {fs : mm_F} {d : Nat} {L : mk_L} {s : mm_S} (h : mm_beg fs d L = some s) : mn_bd s.1 + s.1.length + mn_mz s.2.2.1 + s.2.2.2.length ≤ mn_bd fs + fs.length + L.length := by
  have hl := mm_beg_len h
  have fr : ∀ z : Nat × Nat × mt_T, ¬ (z.1 < 100 ∧ z.1 ≠ 3) → mn_bd (z :: fs) + (z :: fs).length = mn_bd fs + fs.length + 1 := by
    intro z hz
    rw [mn_bd, if_neg hz, List.length_cons]; omega
  have leaf : ∀ k a n m, mn_mz (some (mt_nd k a n m mt_0 mt_0)) = 1 := by
    intro k a n m
    rw [mn_mz, mt_sz_nd, mt_sz_0]
  unfold mm_beg at h
  split at h
  · split at h
    · split at h
      · cases h
        have := fr (102, mk_pr (mk_hd L), mt_0) (by simp only; omega)
        simp only [mn_mz] at hl ⊢; omega
      · cases h
    · split at h
      · cases h
      · cases h
        have := leaf 9 (mk_pr (mk_hd L)) 0 0
        simp only at hl ⊢; omega
  split at h
  · cases h
    have := fr (3, 0, mt_0) (by simp only; omega)
    simp only [mn_mz] at hl ⊢; omega
  split at h
  · split at h
    · cases h
      have := fr (100, 0, mt_0) (by simp only; omega)
      simp only [mn_mz] at hl ⊢; omega
    · cases h
  split at h
  · split at h
    · cases h
      have := fr (101, 0, mt_0) (by simp only; omega)
      simp only [mn_mz] at hl ⊢; omega
    · cases h
  split at h
  · simp only [Option.bind_eq_some_iff] at h
    obtain ⟨v, h1, h2⟩ := h
    cases h2
    have := leaf 1 0 v.1 0
    simp only at hl ⊢; omega
  split at h
  · cases h
    have := leaf 2 0 0 0
    simp only at hl ⊢; omega
  split at h
  · simp only [Option.bind_eq_some_iff] at h
    obtain ⟨v, h1, h2⟩ := h
    have := (mk_prim_ok (a := 1) (by omega) h1).2.1
    have : L.tail.length ≤ L.length := by rw [List.length_tail]; omega
    cases h2
    simp only [mn_mz] at hl ⊢; omega
  split at h
  · simp only [Option.bind_eq_some_iff] at h
    obtain ⟨v, h1, h2⟩ := h
    have := (mk_prim_ok (a := 2) (by omega) h1).2.1
    have : L.tail.length ≤ L.length := by rw [List.length_tail]; omega
    cases h2
    simp only [mn_mz] at hl ⊢; omega
  · simp only [Option.bind_eq_some_iff] at h
    obtain ⟨v, h1, h2⟩ := h
    have := (mk_prim_ok (a := 3) (by omega) h1).2.1
    cases h2
    simp only [mn_mz] at hl ⊢; omega
theorem mm_str_le (k : Nat) : mm_str k ≤ 9 ∧ mm_str k ≠ 3 := by
  have hr : mk_str k ≤ 5 := by
    unfold mk_str
    by_cases g1 : k = 42 ∨ k = 47
    · rw [if_pos g1]; omega
    rw [if_neg g1]
    by_cases g2 : k = 43 ∨ k = 45
    · rw [if_pos g2]; omega
    rw [if_neg g2]
    by_cases g3 : k = 15420 ∨ k = 15934
    · rw [if_pos g3]; omega
    rw [if_neg g3]
    by_cases g4 : k = 38
    · rw [if_pos g4]; omega
    rw [if_neg g4]
    by_cases g5 : k = 124
    · rw [if_pos g5]; omega
    rw [if_neg g5]; omega
  unfold mm_str
  by_cases g1 : k = 14
  · rw [if_pos g1]; omega
  rw [if_neg g1]
  by_cases g2 : k = 13
  · rw [if_pos g2]; omega
  rw [if_neg g2]
  by_cases g3 : mk_rl k ≠ 0
  · rw [if_pos g3]; omega
  rw [if_neg g3]
  by_cases g4 : mk_str k ≠ 0
  · rw [if_pos g4]; omega
  rw [if_neg g4]; omega
theorem mm_on_ms {fs : mm_F} {d : Nat} {X : mt_T} {L : mk_L} {s : mm_S} (h : mm_on fs d X L = some s) : mn_bd s.1 + s.1.length + mn_mz s.2.2.1 + s.2.2.2.length ≤ mn_bd fs + fs.length + mt_sz X + L.length := by
  have hl := mm_on_len h
  have hs9 := mm_str_le (mk_hd L)
  unfold mm_on at h
  split at h
  · simp only [Option.bind_eq_some_iff] at h
    obtain ⟨v, h1, h2⟩ := h
    have := mm_red_ms _ _ _ _ h1
    cases h2
    simp only [mn_mz] at hl ⊢
    rw [mn_bd, if_pos (by simp only; omega), List.length_cons]
    simp only
    omega
  split at h
  · simp only [Option.bind_eq_some_iff] at h
    obtain ⟨v, h1, b, h2, h3⟩ := h
    have := mm_cl_ms (by omega) h1
    cases h3
    simp only [mn_mz] at hl ⊢
    rw [mt_sz_nd, mt_sz_0]
    omega
  split at h
  · simp only [Option.bind_eq_some_iff] at h
    obtain ⟨v, h1, h2⟩ := h
    have := mm_cl_ms (by omega) h1
    cases h2
    simp only [mn_mz] at hl ⊢
    omega
  split at h
  · simp only [Option.bind_eq_some_iff] at h
    obtain ⟨v, h1, h2⟩ := h
    have := mm_cl_ms (by omega) h1
    cases h2
    simp only [mn_mz] at hl ⊢
    omega
  · cases h
theorem mm_R_2 {fs : mm_F} {d : Nat} {mo : Option mt_T} {L : mk_L} (h : mk_hd L = 2) : mm_R fs d mo L = none := by
  cases mo with
  | none =>
    have e : mm_beg fs d L = none := by
      unfold mm_beg
      rw [h, if_neg (by decide), if_neg (by decide), if_neg (by decide), if_neg (by decide), if_neg (by decide), if_neg (by decide), if_neg (by decide), if_neg (by decide), mk_prim_pq, h, if_neg (by decide), if_neg (by decide), if_neg (by decide)]
      rfl
    rw [mm_R_beg, e]; rfl
  | some X =>
    have hL : L ≠ [] := fun e => by rw [e] at h; exact absurd h (by decide)
    have e : mm_on fs d X L = none := by
      unfold mm_on
      rw [h, if_neg (by decide), if_neg (by decide), if_neg (by decide), if_neg (by decide)]
    rw [mm_R_on _ _ _ hL, e]; rfl
section
variable {N R : Nat} {S : List Nat}
theorem mn_goesOn {t : mw_T} {L : mk_L} {fs : mm_F} {d : Nat} {X : mt_T} (hN : 200 ≤ N) (hA : mn_A S t (some L)) (h7 : t.1 49 7 = 0) (h : mn_s1 t fs d X) (hb : mn_bd fs + mt_sz X + fs.length ≤ 164) : mn_E S (mf_Model_goesOn N R t) (mm_on fs d X L) := by
  obtain ⟨_, e, hw, hcd⟩ := mn_A_70 hA h7
  cases e
  have hs9 := mm_str_le (mk_hd L)
  rw [mf_Model_goesOn, mn_strength hcd, mi_b]
  unfold mm_on
  by_cases hs : mm_str (mk_hd L) = 0
  · rw [hs, if_neg (show ¬ (0 : Int32) < nI 0 by decide), if_neg (fun x => x rfl), show (58 : Int64) = nL (mn_v 58 0) from rfl, mn_isSign hcd (show 15 < 58 by omega) (Or.inl (by omega)), mi_b]
    by_cases g58 : mk_hd L = 58
    · rw [decide_eq_true g58, if_neg (show ¬ mj_b2 true = 0 by decide), mf_Model_goesOn_b58, if_pos (Or.inl g58)]
      exact mn_closeSq hN hA h7 h hb (Or.inl g58)
    rw [decide_eq_false g58, if_pos (show mj_b2 false = 0 from rfl), show (93 : Int64) = nL (mn_v 93 0) from rfl, mn_isSign hcd (show 15 < 93 by omega) (Or.inl (by omega)), mi_b]
    by_cases g93 : mk_hd L = 93
    · rw [decide_eq_true g93, if_neg (show ¬ mj_b2 true = 0 by decide), mf_Model_goesOn_b58, if_pos (Or.inr g93)]
      exact mn_closeSq hN hA h7 h hb (Or.inr g93)
    rw [decide_eq_false g93, if_pos (show mj_b2 false = 0 from rfl), if_neg (show ¬ (mk_hd L = 58 ∨ mk_hd L = 93) by omega), if_pos h7, show (41 : Int64) = nL (mn_v 41 0) from rfl, mn_isSign hcd (show 15 < 41 by omega) (Or.inl (by omega)), mi_b]
    have f0 := mn_fr_wi t 7 0 (by omega)
    have hA0 := mn_A_w0 hA h7
    have t07 : (mw_wi t 49 7 0).1 49 7 = 0 := mi_w8 _ _ _ _
    have h0 := mn_s1_fr f0 h
    have clE : ∀ s : Nat, s = 100 ∨ s = 101 → mk_hd L ≠ 2 → mn_E S (mf_Model_goesOn_b127 N R (nI s) (mw_wi t 49 7 0)) ((mm_cl s (decide (s ≠ 100)) fs X).bind fun Y => some (Y.2.1, d - 1, some Y.2.2, L.tail)) := by
      intro s hs hk
      obtain ⟨T, a1, a2, a3⟩ := mn_close (N := N) (R := R) hN h0 t07 hb s (by omega)
      rw [mf_Model_goesOn_b127, a1, mi_b]
      rcases a3 with ⟨a, gs, Y, b1, b2, b3, b4, b5⟩ | ⟨b1, b2⟩
      · obtain ⟨U, c1, c2, c3⟩ := mn_A_take (N := N) (R := R) hN (mn_A_rf hA0 a2 (by rw [b2, t07])) (fun _ L' e => by cases e; exact hk)
        rw [Option.bind_some, mn_tl, if_neg hk] at c3
        rw [c1, mi_b, b1]
        refine ⟨0, U, rfl, c3, fun _ s' hs' => ?_⟩
        cases hs'
        exact Or.inr ⟨_, rfl, rfl, mn_s1_fr c2 b3⟩
      · obtain ⟨U, c1, c2, c3⟩ := mn_A_take (N := N) (R := R) hN (mn_A_rf1 hA0 a2 b2 none (fun _ e => by cases e)) (fun _ L' e => by cases e)
        rw [c1, mi_b, b1]
        exact ⟨0, U, rfl, c3, fun _ s' hs' => by cases hs'⟩
    have hcd0 : mn_cd (mw_wi t 49 7 0) (mk_hd L) (mk_hv L) := by
      obtain ⟨_, e, _, hcd0⟩ := mn_A_70 hA0 t07
      cases e; exact hcd0
    have b97 : mf_Model_goesOn_b96 N R t = (if mk_hd L = 41 then mf_Model_goesOn_b127 N R (nI 100) (mw_wi t 49 7 0) else mf_Model_goesOn_b127 N R (nI 101) (mw_wi t 49 7 0)) := by
      rw [mf_Model_goesOn_b96, mf_Model_goesOn_b97, if_pos (Or.inl rfl), if_pos rfl, show (41 : Int64) = nL (mn_v 41 0) from rfl, mn_isSign hcd0 (show 15 < 41 by omega) (Or.inl (by omega)), mi_b]
      by_cases g : mk_hd L = 41
      · rw [decide_eq_true g, if_neg (show ¬ mj_b2 true = 0 by decide), if_pos g]; rfl
      · rw [decide_eq_false g, if_pos (show mj_b2 false = 0 from rfl), if_neg g]; rfl
    by_cases g41 : mk_hd L = 41
    · rw [decide_eq_true g41, if_neg (show ¬ mj_b2 true = 0 by decide), b97, if_pos g41, if_pos g41]
      exact clE 100 (by omega) (by omega)
    rw [decide_eq_false g41, if_pos (show mj_b2 false = 0 from rfl), if_neg g41, show (125 : Int64) = nL (mn_v 125 0) from rfl, mn_isSign hcd (show 15 < 125 by omega) (Or.inl (by omega)), mi_b]
    by_cases g125 : mk_hd L = 125
    · rw [decide_eq_true g125, if_neg (show ¬ mj_b2 true = 0 by decide), b97, if_neg g41, if_pos g125]
      exact clE 101 (by omega) (by omega)
    rw [decide_eq_false g125, if_pos (show mj_b2 false = 0 from rfl), if_neg g125, mf_Model_goesOn_b92, mf_Model_goesOn_b97, if_pos (Or.inr rfl), if_neg (by decide)]
    exact ⟨0, _, rfl, mn_A_w1 hA, fun _ s hs => by cases hs⟩
  · have hk : mk_hd L ≠ 2 := fun x => hs (by rw [x]; rfl)
    rw [if_pos (show (0 : Int32) < nI (mm_str (mk_hd L)) from mi_ltT (a := 0) (by omega) (by omega)), if_pos hs]
    obtain ⟨T, a1, a2, a3⟩ := mn_reduceTo (N := N) (R := R) (d := d) (q := mm_str (mk_hd L)) (by omega) fs N t X h h7 hb (by omega)
    rw [mf_Model_reduceTo, a1, mi_b]
    rcases a3 with ⟨gs, Y, b1, b2, b3, b4⟩ | ⟨b1, b2, gs, Y, b3, b4⟩
    · have hAT := mn_A_rf hA a2 (by rw [b2, h7])
      have hcdT : mn_cd T (mk_hd L) (mk_hv L) := by
        obtain ⟨_, e, _, hcd0⟩ := mn_A_70 hAT b2
        cases e; exact hcd0
      have no : (if (2 : Int32) < nI (mm_str (mk_hd L)) then (mw_b (mf_Model_numberOf N R T) (fun v3 t3 => mf_Model_goesOn_b29 N R v3 (nI (mm_str (mk_hd L))) t3)) else mf_Model_goesOn_b29 N R 0 (nI (mm_str (mk_hd L))) T) = mf_Model_goesOn_b29 N R (nI (mm_no (mk_hd L))) (nI (mm_str (mk_hd L))) T := by
        by_cases g : 2 < mm_str (mk_hd L)
        · rw [if_pos (show (2 : Int32) < nI (mm_str (mk_hd L)) from mi_ltT (a := 2) (by omega) g), mn_numberOf hcdT g, mi_b]
        · rw [if_neg (show ¬ (2 : Int32) < nI (mm_str (mk_hd L)) from mi_ltF (a := 2) (by omega) (by omega))]
          have hn : mm_no (mk_hd L) = 0 := by
            unfold mm_str at g
            unfold mm_no
            by_cases g1 : mk_hd L = 14
            · rw [g1]; rfl
            rw [if_neg g1] at g
            by_cases g2 : mk_hd L = 13
            · rw [g2]; rfl
            rw [if_neg g2] at g
            by_cases g3 : mk_rl (mk_hd L) ≠ 0
            · rw [if_pos g3] at g; omega
            rw [if_neg g3] at g ⊢
            by_cases g4 : mk_str (mk_hd L) ≠ 0
            · rw [if_pos g4] at g; omega
            rw [if_neg g4]
          rw [hn]; rfl
      rw [no, mf_Model_goesOn_b29]
      obtain ⟨h11, hd, hfs, hY, hYR, h59, h9, h10⟩ := b3
      rw [mn_hold (n := gs.length) (by omega) h11, mi_b, b1, Option.bind_some]
      have v7 : (mn_hd T gs.length (nI (mm_str (mk_hd L))) (nI (mm_no (mk_hd L)))).1 49 7 = T.1 49 7 := mn_hd_o _ _ _ _ (by omega) (by omega) (by omega)
      obtain ⟨U, c1, c2, c3⟩ := mn_A_take (N := N) (R := R) hN (mn_A_rf hAT (mn_hd_rf T gs.length (nI (mm_str (mk_hd L))) (nI (mm_no (mk_hd L)))) v7) (fun _ L' e => by cases e; exact hk)
      rw [Option.bind_some, mn_tl, if_neg hk] at c3
      rw [c1, mi_b]
      refine ⟨1, U, rfl, c3, fun _ s hs' => ?_⟩
      cases hs'
      refine Or.inl ⟨rfl, rfl, mn_s0_fr c2 ⟨?_, ⟨?_, ?_, hd.2.2⟩, mn_hd_fs (z := (mm_str (mk_hd L), mm_no (mk_hd L), Y)) hfs (by simp only; omega) (fun _ => ⟨hY, hYR, h59⟩), ?_, ?_⟩⟩
      · rw [mn_hd, mi_w8, List.length_cons]
      · rw [mn_hd_o _ _ _ _ (by omega) (by omega) (by omega)]; exact hd.1
      · rw [mn_dp, if_pos (by simp only; omega), Nat.zero_add]; exact hd.2.1
      · rw [mn_hd_o _ _ _ _ (by omega) (by omega) (by omega), mn_bd, if_pos (by simp only; omega), Nat.add_comm]; exact h9
      · rw [mn_hd_o _ _ _ _ (by omega) (by omega) (by omega), mn_op, if_pos (by simp only; omega), Nat.add_comm]; exact h10
    · have tot : ∃ v, (if (2 : Int32) < nI (mm_str (mk_hd L)) then (mw_b (mf_Model_numberOf N R T) (fun v3 t3 => mf_Model_goesOn_b29 N R v3 (nI (mm_str (mk_hd L))) t3)) else mf_Model_goesOn_b29 N R 0 (nI (mm_str (mk_hd L))) T) = mf_Model_goesOn_b29 N R v (nI (mm_str (mk_hd L))) T := by
        by_cases g : (2 : Int32) < nI (mm_str (mk_hd L))
        · have e : mf_Model_numberOf N R T = some (.inl (mn_nof (T.2.1 49 6)), T) := by
            rw [mf_Model_numberOf]
            simp only [mi_ite]
            rfl
          rw [if_pos g, e, mi_b]; exact ⟨_, rfl⟩
        · rw [if_neg g]; exact ⟨_, rfl⟩
      obtain ⟨v, ev⟩ := tot
      rw [ev, mf_Model_goesOn_b29, mn_hold (n := gs.length) (by omega) b3.1, mi_b, b1]
      have v7 : (mn_hd T gs.length (nI (mm_str (mk_hd L))) v).1 49 7 = 1 := by rw [mn_hd_o _ _ _ _ (by omega) (by omega) (by omega)]; exact b2
      obtain ⟨U, c1, c2, c3⟩ := mn_A_take (N := N) (R := R) hN (mn_A_rf1 hA (mn_rf_tr a2 (mn_hd_rf T gs.length (nI (mm_str (mk_hd L))) v)) v7 none (fun _ e => by cases e)) (fun _ L' e => by cases e)
      rw [c1, mi_b]
      exact ⟨1, U, rfl, c3, fun _ s' hs' => by cases hs'⟩
/-- the reading's end -/
def mn_end (X : mw_X Int32) (r : Option mt_T) : Prop := ∃ v T, X = some (.inl v, T) ∧ ((∃ Y, r = some Y ∧ v = 1 ∧ mt_RM 0 T 0 Y ∧ T.1 49 9 = nI (mt_sz Y)) ∨ (r = none ∧ v = 0))
theorem mn_bad_end {t : mw_T} (h7 : ¬ t.1 49 7 = 0) (F : Nat) (x : Int32) : mf_Model_reads_l36 N R (F + 1) x t = some (.inl 0, t) := by
  rw [me_Model_reads_l36, mf_Model_reads_l36B, if_neg h7, mf_Model_reads_b88, if_neg h7]
theorem mn_loop (hN : 200 ≤ N) : ∀ (F : Nat) (fs : mm_F) (d : Nat) (mo : Option mt_T) (L : mk_L) (t : mw_T) (x : Int32), mn_md x t (fs, d, mo, L) → mn_A S t (some L) → t.1 49 7 = 0 → mn_bd fs + fs.length + mn_mz mo + L.length ≤ 160 → L.length + 2 ≤ F → mn_end (mf_Model_reads_l36 N R F x t) (mm_R fs d mo L) := by
  intro F
  induction F with
  | zero => intro fs d mo L t x _ _ _ _ h; omega
  | succ F ih =>
    intro fs d mo L t x hm hA h7 hb hF
    obtain ⟨_, e, hw, hcd⟩ := mn_A_70 hA h7
    cases e
    -- a step and what comes of it
    have step : ∀ (X : mw_X Int32) (r : Option mm_S), mn_E S X r → (∀ s, r = some s → mn_bd s.1 + s.1.length + mn_mz s.2.2.1 + s.2.2.2.length ≤ 160 ∧ s.2.2.2.length < L.length) → mn_end (mw_b X (fun v4 t4 => mf_Model_reads_b84 N R (mf_Model_reads_l36 N R F) v4 t4)) (r.bind fun s => mm_R s.1 s.2.1 s.2.2.1 s.2.2.2) := by
      intro X r hX hr
      obtain ⟨v, T, a1, a2, a3⟩ := hX
      rw [a1, mi_b, mf_Model_reads_b84]
      by_cases t7 : T.1 49 7 = 0
      · obtain ⟨M, e, _, _⟩ := mn_A_70 a2 t7
        cases r with
        | none => cases e
        | some s =>
          obtain ⟨r1, r2⟩ := hr s rfl
          exact ih s.1 s.2.1 s.2.2.1 s.2.2.2 T v (a3 t7 s rfl) a2 t7 r1 (by omega)
      · obtain ⟨F, rfl⟩ : ∃ k, F = k + 1 := ⟨F - 1, by omega⟩
        rw [mn_bad_end t7]
        refine ⟨0, T, rfl, Or.inr ⟨?_, rfl⟩⟩
        cases r with
        | none => rfl
        | some s => exact mm_R_2 ((mn_A_71 a2 t7).2 _ rfl)
    have h4e : mk_hd L = 0 ↔ L = [] := by
      constructor
      · intro g
        cases L with
        | nil => rfl
        | cons z L => exact absurd g (hw z (List.mem_cons_self ..)).1
      · intro g; rw [g]; rfl
    have h4 : t.1 49 4 = (0 : Int32) ↔ mk_hd L = 0 := by
      rw [hcd.2.2.1]
      constructor
      · intro g
        by_cases g0 : mk_hd L = 0
        · exact g0
        · exact absurd g (mi_neT (b := 0) (by have := mn_c_le (mk_hd L); omega) (by omega) (by unfold mn_c; rw [if_neg g0]; split <;> (try split) <;> omega))
      · intro g; rw [g]; rfl
    rw [me_Model_reads_l36, mf_Model_reads_l36B, if_pos h7]
    rcases hm with ⟨e1, e2, e3⟩ | ⟨X, e1, e2, e3⟩
    · simp only at e1 e3
      subst e1; subst e2
      by_cases hL : L = []
      · rw [if_pos (h4.mpr (h4e.mpr hL)), if_neg (by decide), mf_Model_reads_b54, if_pos (h4.mpr (h4e.mpr hL))]
        obtain ⟨F, rfl⟩ : ∃ k, F = k + 1 := ⟨F - 1, by omega⟩
        rw [mn_bad_end (by rw [mi_w8]; decide)]
        refine ⟨0, _, rfl, Or.inr ⟨?_, rfl⟩⟩
        subst hL
        rw [mm_R_beg]
        rfl
      · rw [if_neg (fun g => hL (h4e.mp (h4.mp g))), mf_Model_reads_b54, if_neg (fun g => hL (h4e.mp (h4.mp g))), if_neg (by decide), mm_R_beg]
        refine step _ _ (mn_begins hN hA h7 e3 (by simp only [mn_mz] at hb; omega)) (fun s hs => ?_)
        have m1 := mm_beg_ms hs
        have m2 := mm_beg_len hs
        simp only [mn_mz] at hb
        omega
    · simp only at e1 e3
      subst e1; subst e2
      have hX1 := mn_isn_sz e3.2.2.2.1
      simp only [mn_mz] at hb
      by_cases hL : L = []
      · rw [if_pos (h4.mpr (h4e.mpr hL)), if_pos rfl, mf_Model_reads_b88, if_pos h7]
        subst hL
        rw [mm_R_fin]
        obtain ⟨T, a1, a2, a3⟩ := mn_reduceTo (N := N) (R := R) (d := d) (q := 1) (by omega) fs N t X e3 h7 (by omega) (by omega)
        rw [mf_Model_reduceTo, show (1 : Int32) = nI 1 from rfl, a1, mi_b]
        rcases a3 with ⟨gs, Y, b1, b2, b3, b4⟩ | ⟨b1, b2, gs, Y, b3, b4⟩
        · rw [if_pos b2, mm_fin, b1, Option.bind_some]
          cases gs with
          | nil =>
            obtain ⟨h11, hd, hfs, hY, hYR, h59, h9, h10⟩ := b3
            have hY1 := mn_isn_sz hY
            rw [mn_bd, Nat.zero_add] at h9
            rw [mn_bd] at hYR b4
            have e9 : T.1 49 9 - nI 1 = nI (0 + mt_sz Y - 1) := by rw [h9, Nat.zero_add]; exact mi_sub (by omega)
            rw [h11, if_pos (show nI ([] : mm_F).length = 0 from rfl), e9, mn_isValue hY hYR (by omega), mi_b]
            cases hv : mm_iv Y with
            | true =>
              rw [if_neg (show ¬ mj_b2 true = 0 by decide)]
              exact ⟨0, T, rfl, Or.inr ⟨by rw [if_neg (fun x => by cases x.2)], rfl⟩⟩
            | false =>
              rw [if_pos (show mj_b2 false = 0 from rfl)]
              exact ⟨_, T, rfl, Or.inl ⟨Y, by rw [if_pos ⟨rfl, rfl⟩], rfl, hYR, h9⟩⟩
          | cons z gs =>
            rw [b3.1, if_neg (show ¬ nI (z :: gs).length = (0 : Int32) from mi_neT (b := 0) (by omega) (by omega) (by rw [List.length_cons]; omega))]
            exact ⟨0, T, rfl, Or.inr ⟨by rw [if_neg (fun x => by cases x.1)], rfl⟩⟩
        · rw [if_neg (by rw [b2]; decide), mm_fin, b1]
          exact ⟨0, T, rfl, Or.inr ⟨rfl, rfl⟩⟩
      · rw [if_neg (fun g => hL (h4e.mp (h4.mp g))), mf_Model_reads_b54, if_neg (fun g => hL (h4e.mp (h4.mp g))), if_pos rfl, mm_R_on _ _ _ hL]
        refine step _ _ (mn_goesOn hN hA h7 e3 (by omega)) (fun s hs => ?_)
        have m1 := mm_on_ms hs
        have m2 := mm_on_len hs
        omega
theorem mn_reads (hN : 200 ≤ N) {t : mw_T} (h : mk_TM S t) {F : Nat} (hF : 54 ≤ F) : mn_end (mf_Model_reads N R t) ((mk_all F (mk_lx S 0)).map (·.2)) := by
  have hS := h.1.1
  rw [mf_Model_reads]
  generalize hu : (mw_wi (mw_wi (mw_wi (mw_wi (mw_wi (mw_wi t 49 7 (0 : Int32)) 49 9 (0 : Int32)) 49 10 (0 : Int32)) 49 11 (0 : Int32)) 49 12 (0 : Int32)) 49 3 (0 : Int32)) = u
  have key : ∀ q i, q ≠ 49 ∨ (i ≠ 7 ∧ i ≠ 9 ∧ i ≠ 10 ∧ i ≠ 11 ∧ i ≠ 12 ∧ i ≠ 3) → u.1 q i = t.1 q i := by
    intro q i hq
    rw [← hu, mi_w6 _ _ _ _ _ _ (by omega), mi_w6 _ _ _ _ _ _ (by omega), mi_w6 _ _ _ _ _ _ (by omega), mi_w6 _ _ _ _ _ _ (by omega), mi_w6 _ _ _ _ _ _ (by omega), mi_w6 _ _ _ _ _ _ (by omega)]
  have u3 : u.1 49 3 = nI 0 := by rw [← hu, mi_w8]; rfl
  have u12 : u.1 49 12 = nI 0 := by rw [← hu, mi_w6 _ _ _ _ _ _ (by omega), mi_w8]; rfl
  have u11 : u.1 49 11 = nI 0 := by rw [← hu, mi_w6 _ _ _ _ _ _ (by omega), mi_w6 _ _ _ _ _ _ (by omega), mi_w8]; rfl
  have u10 : u.1 49 10 = nI 0 := by rw [← hu, mi_w6 _ _ _ _ _ _ (by omega), mi_w6 _ _ _ _ _ _ (by omega), mi_w6 _ _ _ _ _ _ (by omega), mi_w8]; rfl
  have u9 : u.1 49 9 = nI 0 := by rw [← hu, mi_w6 _ _ _ _ _ _ (by omega), mi_w6 _ _ _ _ _ _ (by omega), mi_w6 _ _ _ _ _ _ (by omega), mi_w6 _ _ _ _ _ _ (by omega), mi_w8]; rfl
  have u7 : u.1 49 7 = 0 := by rw [← hu, mi_w6 _ _ _ _ _ _ (by omega), mi_w6 _ _ _ _ _ _ (by omega), mi_w6 _ _ _ _ _ _ (by omega), mi_w6 _ _ _ _ _ _ (by omega), mi_w6 _ _ _ _ _ _ (by omega), mi_w8]
  have hU : mk_TM S u := ⟨h.1, by rw [key _ _ (by omega)]; exact h.2.1, fun i c hc => by rw [key _ _ (by omega)]; exact h.2.2 i c hc⟩
  obtain ⟨T, a1, a2, p', a3, a4, a5⟩ := mn_take (N := N) (R := R) hN hU (Nat.zero_le _) u3
  rw [a1, mi_b, ← mm_all hF]
  obtain ⟨lw, ll⟩ := mk_lx_ok h.1 S.length 0 (by omega)
  have s0 : mn_s0 T [] 0 := mn_s0_fr a2 ⟨u11, ⟨u12, rfl, by omega⟩, trivial, u9, u10⟩
  rcases a5 with ⟨b1, b2⟩ | ⟨b1, b2, b3, b4⟩
  · obtain ⟨M, rfl⟩ : ∃ k, N = k + 1 := ⟨N - 1, by omega⟩
    rw [mn_bad_end (by rw [b1]; decide)]
    exact ⟨0, T, rfl, Or.inr ⟨mm_R_2 (b2.resolve_left (fun x => x u7)), rfl⟩⟩
  · exact mn_loop hN N [] 0 none (mk_lx S 0) T 1 (Or.inl ⟨rfl, rfl, s0⟩) ⟨mn_TX hU a2, p', a3, a4, Or.inr ⟨b1, _, rfl, b3, lw, b4⟩⟩ b1 (by rw [mn_bd, mn_mz, List.length_nil]; omega) (by omega)
end
