/-! THE REFERENCE goes on -/
theorem mm_cl_nil {s : Nat} {v : Bool} {fs : mm_F} {X Y : mt_T} (h : mm_red 1 fs X = some ([], Y)) : mm_cl s v fs X = none := by rw [mm_cl, h]; rfl
theorem mm_cl_cons {s : Nat} {v : Bool} {fs gs : mm_F} {z : Nat × Nat × mt_T} {X Y : mt_T} (h : mm_red 1 fs X = some (z :: gs, Y)) : mm_cl s v fs X = if z.1 = s ∧ mm_iv Y = v then some (z.2.1, gs, Y) else none := by rw [mm_cl, h]; rfl
section
variable {N R : Nat} {S : List Nat} {t : mw_T} {L : mk_L} {fs : mm_F} {d : Nat} {X : mt_T}
theorem mn_close (hN : 200 ≤ N) (h : mn_s1 t fs d X) (h7 : t.1 49 7 = 0) (hb : mn_bd fs + mt_sz X + fs.length ≤ 164) (s : Nat) (hs : s = 100 ∨ s = 101 ∨ s = 102) : ∃ T, mf_Model_close N R (nI s) t = some (.inl (), T) ∧ mn_rf t T ∧ ((∃ a gs Y, mm_cl s (decide (s ≠ 100)) fs X = some (a, gs, Y) ∧ T.1 49 7 = 0 ∧ mn_s1 T gs (d - 1) Y ∧ T.1 61 gs.length = nI a ∧ mn_bd gs + mt_sz Y + gs.length + 1 ≤ mn_bd fs + mt_sz X + fs.length) ∨ (mm_cl s (decide (s ≠ 100)) fs X = none ∧ T.1 49 7 = 1)) := by
  have hX1 := mn_isn_sz h.2.2.2.1
  obtain ⟨T, a1, a2, a3⟩ := mn_reduceTo (N := N) (R := R) (d := d) (q := 1) (by omega) fs N t X h h7 hb (by omega)
  rw [mf_Model_close, mf_Model_reduceTo, show (1 : Int32) = nI 1 from rfl, a1, mi_b]
  have bad : mn_rf t T → ∃ T', mf_Model_close_b64 N R T = some (.inl (), T') ∧ mn_rf t T' ∧ T'.1 49 7 = 1 := by
    intro hr
    rw [mf_Model_close_b64, mf_Model_close_b69, if_pos (Or.inr rfl), if_neg (by decide)]
    exact ⟨_, rfl, mn_rf_tr hr ⟨fun q i g1 g2 => mi_w6 _ _ _ _ _ _ (by omega), fun _ _ _ => rfl, rfl⟩, mi_w8 _ _ _ _⟩
  rcases a3 with ⟨gs, Y, b1, b2, b3, b4⟩ | ⟨b1, b2, gs, Y, b3, b4⟩
  · rw [if_pos b2]
    cases gs with
    | nil =>
      rw [mm_cl_nil b1, b3.1, if_pos (show nI ([] : mm_F).length = 0 from rfl)]
      obtain ⟨T', c1, c2, c3⟩ := bad a2
      exact ⟨T', c1, c2, Or.inr ⟨rfl, c3⟩⟩
    | cons z gs =>
      rw [mm_cl_cons b1]
      obtain ⟨h11, ⟨h12, hd, hd8⟩, ⟨f60, f61, f200, fbin, ffs⟩, hY, hYR, h59, h9, h10⟩ := b3
      have hY1 := mn_isn_sz hY
      rw [List.length_cons] at h11 b4
      have ho := mn_op_le (z :: gs)
      rw [List.length_cons] at ho
      have e11 : T.1 49 11 - nI 1 = nI gs.length := by rw [h11]; exact mi_sub (by omega)
      have e10 : T.1 49 10 - nI 1 = nI (mn_op (z :: gs)) := by rw [h10]; exact mi_sub (by omega)
      have e12 : d ≠ 0 → T.1 49 12 - (1 : Int32) = nI (d - 1) := by intro x; rw [h12]; exact mi_sub (b := 1) (by omega)
      rw [e11, e10, h11, if_neg (show ¬ nI (gs.length + 1) = (0 : Int32) from mi_neT (b := 0) (by omega) (by omega) (by omega)), if_pos (mi_inT (by omega) (by omega)), mi_tn (by omega), f60]
      by_cases g : z.1 = s
      · rw [if_pos (by rw [g]), if_pos (mi_inT (by omega) (by omega)), mi_tn (by omega), h59, mn_isValue hY hYR (by omega), mi_b]
        have e : (if nI s = (100 : Int32) then mf_Model_close_b61 N R (0 : Int32) (mj_b2 (mm_iv Y)) T else mf_Model_close_b61 N R (nI 1) (mj_b2 (mm_iv Y)) T) = if mm_iv Y = decide (s ≠ 100) then mf_Model_close_b69 N R 0 T else mf_Model_close_b64 N R T := by
          rcases hs with rfl | rfl | rfl
          · rw [if_pos (show nI 100 = (100 : Int32) from rfl), mf_Model_close_b61]
            cases mm_iv Y <;> rfl
          · rw [if_neg (by decide), mf_Model_close_b61]
            cases mm_iv Y <;> rfl
          · rw [if_neg (by decide), mf_Model_close_b61]
            cases mm_iv Y <;> rfl
        rw [e]
        by_cases gv : mm_iv Y = decide (s ≠ 100)
        · rw [if_pos gv]
          rw [if_pos (show z.1 = s ∧ mm_iv Y = decide (s ≠ 100) from ⟨g, gv⟩), mf_Model_close_b69, if_pos (Or.inl rfl), if_pos rfl]
          have hdp : mn_dp (z :: gs) = 1 + mn_dp gs := by rw [mn_dp, if_neg (by omega)]
          have e11' : T.1 49 11 - (1 : Int32) = nI gs.length := e11
          rw [e11', e12 (by omega)]
          have hM : ∀ b, mt_eqM 0 b T (mw_wi (mw_wi (mw_wi T 49 7 0) 49 11 (nI gs.length)) 49 12 (nI (d - 1))) := by
            intro b i hi
            have key : ∀ q, q ≠ 49 → (mw_wi (mw_wi (mw_wi T 49 7 0) 49 11 (nI gs.length)) 49 12 (nI (d - 1))).1 q i = T.1 q i := fun q hq => by rw [mi_w6 _ _ _ _ _ _ (by omega), mi_w6 _ _ _ _ _ _ (by omega), mi_w6 _ _ _ _ _ _ (by omega)]
            exact ⟨⟨key _ (by omega), key _ (by omega), key _ (by omega), key _ (by omega), key _ (by omega)⟩, rfl⟩
          have key : ∀ q i, q ≠ 49 ∨ (i ≠ 7 ∧ i ≠ 11 ∧ i ≠ 12) → (mw_wi (mw_wi (mw_wi T 49 7 0) 49 11 (nI gs.length)) 49 12 (nI (d - 1))).1 q i = T.1 q i := fun q i hq => by rw [mi_w6 _ _ _ _ _ _ (by omega), mi_w6 _ _ _ _ _ _ (by omega), mi_w6 _ _ _ _ _ _ (by omega)]
          have hbd : mn_bd (z :: gs) = mn_bd gs := by rw [mn_bd, if_neg (by omega), Nat.zero_add]
          have hop : mn_op (z :: gs) = mn_op gs := by rw [mn_op, if_neg (by omega), Nat.zero_add]
          rw [hbd] at hYR h59 h9 b4
          rw [hop] at h59 h10
          refine ⟨_, rfl, mn_rf_tr a2 ⟨fun q i g1 g2 => key q i (by omega), fun _ _ _ => rfl, rfl⟩, Or.inl ⟨z.2.1, gs, Y, rfl, ?_, ⟨?_, ⟨?_, by omega, by omega⟩, ?_, hY, ?_, ?_, ?_, ?_⟩, ?_, by omega⟩⟩
          · rw [mi_w6 _ _ _ _ _ _ (by omega), mi_w6 _ _ _ _ _ _ (by omega), mi_w8]
          · rw [mi_w6 _ _ _ _ _ _ (by omega), mi_w8]
          · rw [mi_w8]
          · exact mn_fs_eq (fun i => ⟨key _ _ (by omega), key _ _ (by omega)⟩) (fun i _ => key _ _ (by omega)) (hM (mn_bd gs)) gs (Nat.le_refl _) (Nat.le_refl _) ffs
          · exact mt_RM_eq (hM (mn_bd gs + mt_sz Y)) Y _ (Nat.le_refl _) hYR
          · rw [key _ _ (by omega)]; exact h59
          · rw [key _ _ (by omega)]; exact h9
          · rw [key _ _ (by omega)]; exact h10
          · rw [key _ _ (by omega)]; exact f61
        · rw [if_neg gv]
          obtain ⟨T', c1, c2, c3⟩ := bad a2
          exact ⟨T', c1, c2, Or.inr ⟨by rw [if_neg (fun x => gv x.2)], c3⟩⟩
      · rw [if_neg (mi_neT (by omega) (by omega) g)]
        obtain ⟨T', c1, c2, c3⟩ := bad a2
        exact ⟨T', c1, c2, Or.inr ⟨by rw [if_neg (fun x => g x.1)], c3⟩⟩
  · rw [if_neg (by rw [b2]; decide)]
    obtain ⟨T', c1, c2, c3⟩ := bad a2
    exact ⟨T', c1, c2, Or.inr ⟨by rw [mm_cl, b1]; rfl, c3⟩⟩
/-- the access over its place -/
theorem mn_sq112 {gs : mm_F} {Y : mt_T} (h : mn_s1 t gs d Y) (hb : mn_bd gs + mt_sz Y + gs.length < 165) (a : Nat) (x3 : Int64) : ∃ T, mf_Model_closeSquare_b112 N R (nI a) x3 t = some (.inl (), T) ∧ mn_rf t T ∧ T.1 49 7 = t.1 49 7 ∧ (∀ n, x3 = nL n → mn_s1 T gs d (mt_nd 3 a n 0 Y mt_0)) := by
  obtain ⟨h11, hd, hfs, hY, hYR, h59, h9, h10⟩ := h
  have hY1 := mn_isn_sz hY
  have ho := mn_op_le gs
  rw [mf_Model_closeSquare_b112, mn_pop (c := mn_op gs) (by omega) h10, mi_b, h59]
  have p1 := mn_pf_wi (mn_pf_rf t) 10 (nI (mn_op gs)) (by omega)
  have st : ∀ n, (x3 = nL n) → ∃ T, mf_Model_node N R (nI 3) (nI a) (nI (mn_bd gs + mt_sz Y - 1)) (-1) x3 (mw_wi t 49 10 (nI (mn_op gs))) = some (.inl (), T) ∧ mn_rf t T ∧ mn_s1 T gs d (mt_nd 3 a n 0 Y mt_0) ∧ T.1 49 7 = (mw_wi t 49 10 (nI (mn_op gs))).1 49 7 := fun n e => mn_over (N := N) (R := R) hd hfs p1 hY hYR (r := mt_0) trivial (by rw [mt_sz_0]; omega) (by rw [mi_w6 _ _ _ _ _ _ (by omega)]; exact h11) (by rw [mi_w8]) (by rw [p1.1 _ _ (by omega), h9, mt_sz_0, Nat.add_zero]) 3 a n (-1) x3 (by omega) (by omega) (fun g => by omega) (fun _ => e)
  obtain ⟨T, c1, c2, c3, c4, c5, c6, c7, c8, c9, c10, c11⟩ := mn_nodeR (N := N) (R := R) (mw_wi t 49 10 (nI (mn_op gs))) (n := mn_bd gs + mt_sz Y) (c := mn_op gs) (j := mn_bd gs + mt_sz Y - 1) (by omega) (by omega) (by omega) (by rw [p1.1 _ _ (by omega)]; exact h9) (by rw [mi_w8]) (3 : Int32) (nI a) (-1) x3
  rw [c1, mi_b]
  refine ⟨T, rfl, mn_rf_tr (mn_pf_mrf p1) (mn_nf_rf c11), by rw [c11.1 _ _ (by omega) (by omega) (by omega), mi_w6 _ _ _ _ _ _ (by omega)], fun n e => ?_⟩
  obtain ⟨T', q1, q2, q3, q4⟩ := st n e
  have q1' : mf_Model_node N R (3 : Int32) (nI a) (nI (mn_bd gs + mt_sz Y - 1)) (-1) x3 (mw_wi t 49 10 (nI (mn_op gs))) = some (.inl (), T') := q1
  rw [c1] at q1'
  cases q1'
  exact q3
theorem mn_closeSq (hN : 200 ≤ N) (hA : mn_A S t (some L)) (h7 : t.1 49 7 = 0) (h : mn_s1 t fs d X) (hb : mn_bd fs + mt_sz X + fs.length ≤ 164) (hk : mk_hd L = 58 ∨ mk_hd L = 93) : mn_E S (mw_b (mf_Model_closeSquare N R t) (fun _ t10 => (some (.inl (0 : Int32), t10)))) ((mm_cl 102 true fs X).bind fun Y => (mk_size L).bind fun b => some (Y.2.1, d - 1, some (mt_nd 3 Y.1 b.1 0 Y.2.2 mt_0), b.2)) := by
  obtain ⟨_, e, hw, hcd⟩ := mn_A_70 hA h7
  cases e
  obtain ⟨T, a1, a2, a3⟩ := mn_close (N := N) (R := R) hN h h7 hb 102 (by omega)
  rw [mf_Model_closeSquare, show (58 : Int64) = nL (mn_v 58 0) from rfl, mn_isSign hcd (show 15 < 58 by omega) (Or.inl (by omega)), mi_b, show (102 : Int32) = nI 102 from rfl, a1, mi_b]
  rw [show decide (102 ≠ 100) = true from rfl] at a3
  rcases a3 with ⟨a, gs, Y, b1, b2, b3, b4, b5⟩ | ⟨b1, b2⟩
  · have hAT := mn_A_rf hA a2 (by rw [b2, h7])
    have h11 := b3.1
    have hY1 := mn_isn_sz b3.2.2.2.1
    obtain ⟨U, c1, c2, c3⟩ := mn_A_take (N := N) (R := R) hN hAT (fun _ L' e => by cases e; omega)
    rw [Option.bind_some, mn_tl, if_neg (by omega)] at c3
    rw [if_pos b2, h11, if_pos (mi_inT (by omega) (by omega)), c1, mi_b, mi_tn (by omega), b4, b1, Option.bind_some]
    have sU := mn_s1_fr c2 b3
    -- an end without a take
    have end0 : ∀ (V : mw_T) (rr : Option (Nat × mk_L)) (x3 : Int64), mn_A S V (rr.map (·.2)) → mn_s1 V gs (d - 1) Y → (∀ b, rr = some b → x3 = nL b.1) → mn_E S (mw_b (mf_Model_closeSquare_b112 N R (nI a) x3 V) (fun _ t10 => (some (.inl (0 : Int32), t10)))) (rr.bind fun b => some (gs, d - 1, some (mt_nd 3 a b.1 0 Y mt_0), b.2)) := by
      intro V rr x3 hV sV hx
      obtain ⟨W, w1, w2, w3, w4⟩ := mn_sq112 (N := N) (R := R) sV (by omega) a x3
      rw [w1, mi_b]
      refine ⟨0, W, rfl, ?_, fun _ s hs => ?_⟩
      · have e : ((rr.bind fun b => some ((gs, d - 1, some (mt_nd 3 a b.1 0 Y mt_0), b.2) : mm_S)).map (fun s => s.2.2.2)) = rr.map (·.2) := by cases rr <;> rfl
        rw [e]; exact mn_A_rf hV w2 w3
      · cases rr with
        | none => cases hs
        | some b =>
          cases hs
          exact Or.inr ⟨_, rfl, rfl, w4 b.1 (hx b rfl)⟩
    rcases hk with g58 | g93
    · rw [decide_eq_true g58, if_neg (show ¬ mj_b2 true = 0 by decide)]
      obtain ⟨v, V, d1, d2, d3, d4⟩ := mn_needNumber (N := N) (R := R) hN c3 (hi := 4) (by omega)
      rw [Option.bind_some] at d3 d4
      rw [show (4 : Int64) = nL 4 from rfl, d1, mi_b]
      have sV := mn_s1_fr d2 sU
      have size : mk_size L = (mk_num 4 L.tail).bind fun b => if b.1 = 0 ∨ b.1 = 3 then none else (mk_ex 93 b.2).bind fun L1 => some (b.1, L1) := by rw [mk_size, if_pos g58]
      rw [size]
      have bad : ((mk_num 4 L.tail).bind fun b => if b.1 = 0 ∨ b.1 = 3 then none else (mk_ex 93 b.2).bind fun L1 => some (b.1, L1)) = none → mn_E S (mw_b (mf_Model_closeSquare_b96 N R (mj_b2 true) (nI a) v V) (fun _ t10 => (some (.inl (0 : Int32), t10)))) (((mk_num 4 L.tail).bind fun b => if b.1 = 0 ∨ b.1 = 3 then none else (mk_ex 93 b.2).bind fun L1 => some (b.1, L1)).bind fun b => some (gs, d - 1, some (mt_nd 3 a b.1 0 Y mt_0), b.2)) := by
        intro e
        rw [e]
        obtain ⟨W, w1, w2, w3⟩ := mn_A_take (N := N) (R := R) hN (mn_A_w1 d3) (fun _ L' e => by cases e)
        rw [mf_Model_closeSquare_b96, mf_Model_closeSquare_b101, if_pos (Or.inr rfl), if_neg (show ¬ mj_b2 true = 0 by decide), w1, mi_b]
        exact end0 W none v w3 (mn_s1_fr w2 (mn_s1_fr (mn_fr_wi V 7 1 (by omega)) sV)) (fun b hb => by cases hb)
      rw [mf_Model_closeSquare_b51]
      by_cases v7 : V.1 49 7 = 0
      · rw [if_pos v7]
        obtain ⟨M, e, hw2, hcd2⟩ := mn_A_70 d3 v7
        cases hn : mk_num 4 L.tail with
        | none => rw [hn] at e; cases e
        | some b =>
          rw [hn, Option.map_some, Option.some.injEq] at e
          have hb4 : b.1 ≤ 4 := by
            rw [mk_num] at hn
            by_cases g : mk_hd L.tail = 1 ∧ mk_hv L.tail ≤ 4
            · rw [if_pos g] at hn; cases hn; exact g.2
            · rw [if_neg g] at hn; cases hn
          have ev := d4 b hn
          subst ev
          subst e
          rw [hn] at bad d3
          simp only [Option.bind_some, Option.map_some] at bad d3 ⊢
          have good : b.1 ≠ 0 → b.1 ≠ 3 → mn_E S (mw_b (mf_Model_closeSquare_b82 N R (mj_b2 true) (nI a) (nL b.1) V) (fun _ t10 => (some (.inl (0 : Int32), t10)))) ((if b.1 = 0 ∨ b.1 = 3 then none else (mk_ex 93 b.2).bind fun L1 => some (b.1, L1)).bind fun b => some (gs, d - 1, some (mt_nd 3 a b.1 0 Y mt_0), b.2)) := by
            intro n0 n3
            rw [if_neg (by omega)] at bad ⊢
            rw [mf_Model_closeSquare_b82, if_neg (show ¬ mj_b2 true = 0 by decide), show (93 : Int64) = nL (mn_v 93 0) from rfl, mn_isSign hcd2 (show 15 < 93 by omega) (Or.inl (by omega)), mi_b]
            by_cases g : mk_hd b.2 = 93
            · rw [decide_eq_true g, if_neg (show ¬ mj_b2 true = 0 by decide), mf_Model_closeSquare_b100, mf_Model_closeSquare_b101, if_pos (Or.inl rfl), if_neg (show ¬ mj_b2 true = 0 by decide)]
              obtain ⟨W, w1, w2, w3⟩ := mn_A_take (N := N) (R := R) hN (mn_A_w0 d3 v7) (fun _ L' e => by cases e; omega)
              rw [Option.bind_some, mn_tl, if_neg (by omega)] at w3
              rw [w1, mi_b, mk_ex, if_pos g, Option.bind_some]
              exact end0 W (some (b.1, b.2.tail)) _ w3 (mn_s1_fr w2 (mn_s1_fr (mn_fr_wi V 7 0 (by omega)) sV)) (fun b' hb' => by cases hb'; rfl)
            · rw [decide_eq_false g, if_pos (show mj_b2 false = 0 from rfl)]
              exact bad (by rw [mk_ex, if_neg g]; rfl)
          have eqv : ∀ c : Nat, c < 10 → (nL b.1 = nL c ↔ b.1 = c) := fun c hc => by rw [mi_eqL (by omega) (by omega)]
          have e1 : nL b.1 = (1 : Int64) ↔ b.1 = 1 := eqv 1 (by omega)
          have e2 : nL b.1 = (2 : Int64) ↔ b.1 = 2 := eqv 2 (by omega)
          have e4 : nL b.1 = nL 4 ↔ b.1 = 4 := eqv 4 (by omega)
          by_cases g1 : b.1 = 1
          · rw [if_pos (e1.mpr g1)]; exact good (by omega) (by omega)
          rw [if_neg (fun x => g1 (e1.mp x))]
          by_cases g2 : b.1 = 2
          · rw [if_pos (e2.mpr g2)]; exact good (by omega) (by omega)
          rw [if_neg (fun x => g2 (e2.mp x))]
          by_cases g4 : b.1 = 4
          · rw [if_pos (show nL b.1 = (4 : Int64) from e4.mpr g4)]; exact good (by omega) (by omega)
          rw [if_neg (show ¬ nL b.1 = (4 : Int64) from fun x => g4 (e4.mp x))]
          exact bad (by rw [if_pos (by omega)])
      · rw [if_neg v7]
        refine bad ?_
        have := (mn_A_71 d3 v7).2
        cases hn : mk_num 4 L.tail with
        | none => rfl
        | some b =>
          have h2 := this b.2 (by rw [hn]; rfl)
          rw [Option.bind_some]
          by_cases g : b.1 = 0 ∨ b.1 = 3
          · rw [if_pos g]
          · rw [if_neg g, mk_ex, if_neg (by omega)]; rfl
    · rw [decide_eq_false (by omega), if_pos (show mj_b2 false = 0 from rfl), mf_Model_closeSquare_b51]
      have size : mk_size L = some (1, L.tail) := by rw [mk_size, if_neg (by omega), mk_ex, if_pos g93]; rfl
      rw [size]
      have st : ∀ y : Int32, y = 0 ∨ y = 1 → mf_Model_closeSquare_b101 N R (mj_b2 false) (nI a) 1 y U = mf_Model_closeSquare_b112 N R (nI a) 1 (mw_wi U 49 7 y) := by
        intro y hy
        rw [mf_Model_closeSquare_b101, if_pos hy, if_pos (show mj_b2 false = 0 from rfl)]
      by_cases u7 : U.1 49 7 = 0
      · rw [if_pos u7, if_pos rfl, mf_Model_closeSquare_b82, if_pos (show mj_b2 false = 0 from rfl), mf_Model_closeSquare_b100, st 0 (Or.inl rfl)]
        exact end0 _ (some (1, L.tail)) 1 (mn_A_w0 c3 u7) (mn_s1_fr (mn_fr_wi U 7 0 (by omega)) sU) (fun b hb => by cases hb; rfl)
      · rw [if_neg u7, mf_Model_closeSquare_b96, st 1 (Or.inr rfl)]
        have h2 := (mn_A_71 c3 u7).2
        refine end0 _ (some (1, L.tail)) 1 ?_ (mn_s1_fr (mn_fr_wi U 7 1 (by omega)) sU) (fun b hb => by cases hb; rfl)
        exact mn_A_rf1 (mn_A_w1 c3) (mn_rf_rf _) (by rw [mi_w8]) _ h2
  · rw [if_neg (by rw [b2]; decide), b1, mi_b]
    exact ⟨0, T, rfl, mn_A_rf1 hA a2 b2 _ (fun L' e => by cases e), fun x => absurd (x.symm.trans b2) (by decide)⟩
end
