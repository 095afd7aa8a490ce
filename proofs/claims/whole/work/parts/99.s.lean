/-! THE REFERENCE begins -/
def mn_md (v : Int32) (T : mw_T) (s : mm_S) : Prop := (s.2.2.1 = none ∧ v = 1 ∧ mn_s0 T s.1 s.2.1) ∨ ∃ X, s.2.2.1 = some X ∧ v = 0 ∧ mn_s1 T s.1 s.2.1 X
/-- a step's end -/
def mn_E (S : List Nat) (X : mw_X Int32) (r : Option mm_S) : Prop := ∃ v T, X = some (.inl v, T) ∧ mn_A S T (r.map (fun s => s.2.2.2)) ∧ (T.1 49 7 = 0 → ∀ s, r = some s → mn_md v T s)
section
variable {N R : Nat} {S : List Nat} {t : mw_T} {L : mk_L} {fs : mm_F} {d : Nat}
theorem mn_obr (hN : 200 ≤ N) (hA : mn_A S t (some L)) (h7 : t.1 49 7 = 0) (hk : mk_hd L ≠ 2) (h0 : mn_s0 t fs d) (hl : fs.length < 165) (s a : Nat) (hs : 100 ≤ s) (hs2 : s < 200) : ∃ u T, mf_Model_open N R (nI s) (nI a) t = some (.inl (), u) ∧ mf_Model_take N R u = some (.inl (), T) ∧ mn_A S T ((if d < 8 then some ((((s, a, mt_0) :: fs, d + 1, none, L.tail)) : mm_S) else none).map (fun s => s.2.2.2)) ∧ (T.1 49 7 = 0 → d < 8 → mn_s0 T ((s, a, mt_0) :: fs) (d + 1)) := by
  obtain ⟨u, o1, o2, o3, o4⟩ := mn_open0 (N := N) (R := R) h0 hl (nI s) (nI a)
  by_cases g : d < 8
  · obtain ⟨p1, p2⟩ := o4 h7 g
    obtain ⟨T, a1, a2, a3⟩ := mn_A_take (N := N) (R := R) hN (mn_A_rf hA o2 (by rw [p1, h7])) (fun _ L' e => by cases e; exact hk)
    rw [Option.bind_some, mn_tl, if_neg hk] at a3
    rw [if_pos g]
    exact ⟨u, T, o1, a1, a3, fun _ _ => mn_s0_fr a2 (p2 s a hs hs2 rfl rfl)⟩
  · have hd8 := h0.2.1.2.2
    have p1 := o3 (Or.inr (by omega))
    obtain ⟨T, a1, a2, a3⟩ := mn_A_take (N := N) (R := R) hN (mn_A_rf1 hA o2 p1 none (fun _ e => by cases e)) (fun _ L' e => by cases e)
    rw [if_neg g]
    exact ⟨u, T, o1, a1, a3, fun _ x => absurd x g⟩
theorem mn_lft (hN : 200 ≤ N) (hA : mn_A S t (some L)) (h7 : t.1 49 7 = 0) (hk : mk_hd L ≠ 2) (h0 : mn_s0 t fs d) (hl : mn_bd fs + fs.length < 165) (k n : Nat) (x4 : Int64) (hk3 : k = 1 ∨ k = 2) (hx4 : k = 1 → x4 = nL n) : mn_E S (mw_b (mf_Model_node N R (nI k) (0 : Int32) (-1 : Int32) (-1 : Int32) x4 t) (fun _ t13 => (mw_b (mf_Model_take N R t13) (fun _ t14 => (some (.inl (0 : Int32), t14)))))) (some (fs, d, some (mt_nd k 0 n 0 mt_0 mt_0), L.tail)) := by
  obtain ⟨u, o1, o2, o3, o4⟩ := mn_leaf (N := N) (R := R) h0 hl (nI k) 0 (-1) x4
  obtain ⟨T, a1, a2, a3⟩ := mn_A_take (N := N) (R := R) hN (mn_A_rf hA o2 o3) (fun _ L' e => by cases e; exact hk)
  rw [Option.bind_some, mn_tl, if_neg hk] at a3
  rw [o1, mi_b, a1, mi_b]
  refine ⟨0, T, rfl, a3, fun _ s hs => ?_⟩
  cases hs
  exact Or.inr ⟨_, rfl, rfl, mn_s1_fr a2 (o4 k 0 n 0 rfl rfl (by omega) (by omega) (fun x => by omega) (fun x => hx4 (by omega)))⟩
theorem mn_pE (hN : 200 ≤ N) {rr : Option mk_L} (hA : mn_A S t rr) (h0 : mn_s0 t fs d) (hl : mn_bd fs + fs.length < 165) (a : Nat) : mn_E S (mw_b (mf_Model_primitive N R (nI a) t) (fun _ t15 => (some (.inl (0 : Int32), t15)))) ((rr.bind (mk_prim a)).bind fun X => some (fs, d, some X.1, X.2)) := by
  obtain ⟨u, y0, x4, x6, p1, p2, p3, p4⟩ := mn_prim (N := N) (R := R) hN hA a
  obtain ⟨T, o1, o2, o3, o4⟩ := mn_leaf (N := N) (R := R) (mn_s0_fr p2 h0) hl y0 (nI a) x6 x4
  rw [p1, o1, mi_b, mi_b]
  refine ⟨0, T, rfl, ?_, fun _ s hs => ?_⟩
  · have e : (((rr.bind (mk_prim a)).bind fun X => some ((fs, d, some X.1, X.2) : mm_S)).map (fun s => s.2.2.2)) = (rr.bind (mk_prim a)).map (·.2) := by
      cases rr.bind (mk_prim a) <;> rfl
    rw [e]
    exact mn_A_rf p3 o2 o3
  · cases hr : rr.bind (mk_prim a) with
    | none => rw [hr] at hs; cases hs
    | some y =>
      rw [hr, Option.bind_some] at hs
      cases hs
      obtain ⟨k, n, m, q1, q2, q3, q4, q5, q6⟩ := p4 y hr
      refine Or.inr ⟨_, rfl, rfl, ?_⟩
      show mn_s1 T fs d y.1
      rw [q1]
      exact o4 k a n m q4 rfl (by omega) (by omega) (fun _ => q6) (fun _ => q5)
theorem mn_begins (hN : 200 ≤ N) (hA : mn_A S t (some L)) (h7 : t.1 49 7 = 0) (h0 : mn_s0 t fs d) (hl : mn_bd fs + fs.length < 165) : mn_E S (mf_Model_begins N R t) (mm_beg fs d L) := by
  obtain ⟨_, e, hw, hcd⟩ := mn_A_70 hA h7
  cases e
  have hd8 := h0.2.1.2.2
  rw [mf_Model_begins, mn_protocol hcd, mi_b]
  unfold mm_beg
  by_cases hp : mk_pr (mk_hd L) = 9
  · rw [if_pos hp, if_pos (by decide), if_neg (fun x => x hp), show (7630702 : Int64) = nL (mn_w 12) from rfl, mn_isWord hcd (show 12 < 13 by omega), mi_b]
    by_cases g15 : mk_hd L = 15
    · rw [decide_eq_true (show mk_hd L = 12 + 3 from g15), if_neg (show ¬ mj_b2 true = 0 by decide), mf_Model_begins_b107, if_neg (show ¬ mj_b2 true = 0 by decide), if_pos g15]
      obtain ⟨h11, hd, hfs, h9, h10⟩ := h0
      have hh := mn_hold (N := N) (R := R) (t := t) (n := fs.length) (by omega) h11 (nI 3) (nI 0)
      rw [show (3 : Int32) = nI 3 from rfl, show (0 : Int32) = nI 0 from rfl, hh, mi_b, mf_Model_begins_b142]
      have v7 : (mn_hd t fs.length (nI 3) (nI 0)).1 49 7 = t.1 49 7 := mn_hd_o _ _ _ _ (by omega) (by omega) (by omega)
      obtain ⟨T, a1, a2, a3⟩ := mn_A_take (N := N) (R := R) hN (mn_A_rf hA (mn_hd_rf t fs.length (nI 3) (nI 0)) v7) (fun _ L' e => by cases e; omega)
      rw [Option.bind_some, mn_tl, if_neg (by omega)] at a3
      rw [a1, mi_b]
      refine ⟨1, T, rfl, a3, fun _ s hs => ?_⟩
      cases hs
      refine Or.inl ⟨rfl, rfl, mn_s0_fr a2 ⟨?_, ⟨?_, ?_, hd.2.2⟩, mn_hd_fs (z := (3, 0, mt_0)) hfs (by decide) (fun x => absurd rfl x.2), ?_, ?_⟩⟩
      · rw [mn_hd, mi_w8, List.length_cons]
      · rw [mn_hd_o _ _ _ _ (by omega) (by omega) (by omega)]; exact hd.1
      · rw [mn_dp, if_pos (by decide), Nat.zero_add]; exact hd.2.1
      · rw [mn_hd_o _ _ _ _ (by omega) (by omega) (by omega), mn_bd, if_neg (by decide), Nat.zero_add]; exact h9
      · rw [mn_hd_o _ _ _ _ (by omega) (by omega) (by omega), mn_op, if_neg (by decide), Nat.zero_add]; exact h10
    have brk : ∀ s : Nat, 100 ≤ s → s < 200 → mk_hd L ≠ 2 → mn_E S (mf_Model_begins_b138 N R (nI s) t) (if d < 8 then some ((s, 0, mt_0) :: fs, d + 1, none, L.tail) else none) := by
      intro s hs1 hs2 hk
      obtain ⟨u, T, o1, o2, o3, o4⟩ := mn_obr (N := N) (R := R) hN hA h7 hk h0 (by omega) s 0 hs1 hs2
      rw [mf_Model_begins_b138, show (0 : Int32) = nI 0 from rfl, o1, mi_b, mf_Model_begins_b142, o2, mi_b]
      refine ⟨1, T, rfl, o3, fun x s' hs' => ?_⟩
      by_cases g : d < 8
      · rw [if_pos g] at hs'
        cases hs'
        exact Or.inl ⟨rfl, rfl, o4 x g⟩
      · rw [if_neg g] at hs'; cases hs'
    rw [decide_eq_false (show ¬ mk_hd L = 12 + 3 from g15), if_pos (show mj_b2 false = 0 from rfl), if_neg g15, show (40 : Int64) = nL (mn_v 40 0) from rfl, mn_isSign hcd (show 15 < 40 by omega) (Or.inl (by omega)), mi_b]
    by_cases g40 : mk_hd L = 40
    · rw [decide_eq_true g40, if_neg (show ¬ mj_b2 true = 0 by decide), mf_Model_begins_b107, if_pos (show mj_b2 false = 0 from rfl), show (40 : Int64) = nL (mn_v 40 0) from rfl, mn_isSign hcd (show 15 < 40 by omega) (Or.inl (by omega)), mi_b, decide_eq_true g40, if_neg (show ¬ mj_b2 true = 0 by decide), if_pos g40]
      exact brk 100 (by omega) (by omega) (by omega)
    rw [decide_eq_false g40, if_pos (show mj_b2 false = 0 from rfl), if_neg g40, show (123 : Int64) = nL (mn_v 123 0) from rfl, mn_isSign hcd (show 15 < 123 by omega) (Or.inl (by omega)), mi_b]
    by_cases g123 : mk_hd L = 123
    · rw [decide_eq_true g123, if_neg (show ¬ mj_b2 true = 0 by decide), mf_Model_begins_b107, if_pos (show mj_b2 false = 0 from rfl), show (40 : Int64) = nL (mn_v 40 0) from rfl, mn_isSign hcd (show 15 < 40 by omega) (Or.inl (by omega)), mi_b, decide_eq_false g40, if_pos (show mj_b2 false = 0 from rfl), if_pos g123]
      exact brk 101 (by omega) (by omega) (by omega)
    rw [decide_eq_false g123, if_pos (show mj_b2 false = 0 from rfl), if_neg g123, show (6517363 : Int64) = nL (mn_w 5) from rfl, mn_isWord hcd (show 5 < 13 by omega), mi_b, show (7631716 : Int64) = nL (mn_w 6) from rfl, mn_isWord hcd (show 6 < 13 by omega), mi_b]
    obtain ⟨k1, k2, k3, k4, k5⟩ := hcd
    by_cases g1 : mk_hd L = 1
    · have h4 : t.1 49 4 = 2 := by rw [k3, g1]; rfl
      have h6 : t.2.1 49 6 = nL (mk_hv L) := by rw [k4 (by omega), g1]; rfl
      rw [if_pos h4, mf_Model_begins_b183, if_pos h4, mf_Model_begins_b197, if_pos g1, mk_num, if_pos ⟨g1, by omega⟩, Option.bind_some]
      exact mn_lft hN hA h7 (by omega) h0 hl 1 (mk_hv L) _ (by omega) (fun _ => h6)
    · have h4 : ¬ t.1 49 4 = (2 : Int32) := by rw [k3]; exact mi_neT (b := 2) (by have := mn_c_le (mk_hd L); omega) (by omega) (mn_c_n2 g1)
      have hcd : mn_cd t (mk_hd L) (mk_hv L) := ⟨k1, k2, k3, k4, k5⟩
      rw [if_neg h4, if_neg g1, show (7234924 : Int64) = nL (mn_w 4) from rfl, mn_isWord hcd (show 4 < 13 by omega), mi_b]
      by_cases g7 : mk_hd L = 7
      · rw [decide_eq_true (show mk_hd L = 4 + 3 from g7), if_neg (show ¬ mj_b2 true = 0 by decide), mf_Model_begins_b183, if_neg h4, mf_Model_begins_b197, if_pos g7]
        exact mn_lft hN hA h7 (by omega) h0 hl 2 0 _ (by omega) (fun x => by omega)
      · rw [decide_eq_false (show ¬ mk_hd L = 4 + 3 from g7), if_pos (show mj_b2 false = 0 from rfl), if_neg g7]
        have dir : ∀ a : Nat, mk_hd L ≠ 2 → mn_E S (mw_b (mf_Model_take N R t) (fun _ t10 => mf_Model_begins_b245 N R (nI a) t10)) ((mk_prim a L.tail).bind fun X => some (fs, d, some X.1, X.2)) := by
          intro a hk
          obtain ⟨T, a1, a2, a3⟩ := mn_A_take (N := N) (R := R) hN hA (fun _ L' e => by cases e; exact hk)
          rw [Option.bind_some, mn_tl, if_neg hk] at a3
          rw [a1, mi_b, mf_Model_begins_b245]
          exact mn_pE hN a3 (mn_s0_fr a2 h0) hl a
        by_cases g8 : mk_hd L = 8
        · rw [decide_eq_true (show mk_hd L = 5 + 3 from g8), if_neg (show ¬ mj_b2 true = 0 by decide), if_pos g8, mf_Model_begins_b222]
          exact dir 1 (by omega)
        · rw [decide_eq_false (show ¬ mk_hd L = 5 + 3 from g8), if_pos (show mj_b2 false = 0 from rfl), if_neg g8]
          by_cases g9 : mk_hd L = 9
          · rw [decide_eq_true (show mk_hd L = 6 + 3 from g9), if_neg (show ¬ mj_b2 true = 0 by decide), if_pos g9, mf_Model_begins_b222]
            exact dir 2 (by omega)
          · rw [decide_eq_false (show ¬ mk_hd L = 6 + 3 from g9), if_pos (show mj_b2 false = 0 from rfl), if_neg g9, mf_Model_begins_b226, if_pos (show mj_b2 false = 0 from rfl), if_pos (show mj_b2 false = 0 from rfl), mf_Model_begins_b245]
            exact mn_pE hN hA h0 hl 3
  · have hpl : mk_pr (mk_hd L) ≤ 3 := by
      unfold mk_pr at hp ⊢
      by_cases g : mk_hd L = 6
      · rw [if_pos g]; omega
      rw [if_neg g] at hp ⊢
      by_cases g : mk_hd L = 3
      · rw [if_pos g]; omega
      rw [if_neg g] at hp ⊢
      by_cases g : mk_hd L = 4
      · rw [if_pos g]; omega
      rw [if_neg g] at hp ⊢
      by_cases g : mk_hd L = 5
      · rw [if_pos g]; omega
      rw [if_neg g] at hp
      exact absurd rfl hp
    have hk : mk_hd L ≠ 2 := fun x => hp (by rw [x]; rfl)
    rw [if_neg hp, if_neg (show ¬ nI (mk_pr (mk_hd L)) < (0 : Int32) from mi_ltF (b := 0) (by omega) (by omega)), if_pos hp]
    obtain ⟨T, a1, a2, a3⟩ := mn_A_take (N := N) (R := R) hN hA (fun _ L' e => by cases e; exact hk)
    rw [Option.bind_some, mn_tl, if_neg hk] at a3
    rw [a1, mi_b]
    have h0T := mn_s0_fr a2 h0
    -- a bad end
    have bad : ∀ (b : Bool) (r : Option mm_S), (∀ s, r = some s → mk_hd s.2.2.2 = 2) → mn_E S (mf_Model_begins_b37 N R (nI (mk_pr (mk_hd L))) (mj_b2 b) T) r := by
      intro b r hr
      rw [mf_Model_begins_b37, mf_Model_begins_b42, if_pos (Or.inr rfl)]
      have f1 := mn_fr_wi T 7 1 (by omega)
      have hr' : ∀ L', r.map (fun s => s.2.2.2) = some L' → mk_hd L' = 2 := by
        intro L' e
        cases r with
        | none => cases e
        | some s => cases e; exact hr s rfl
      cases b with
      | false =>
        obtain ⟨U, o1, o2, o3, o4⟩ := mn_leaf (N := N) (R := R) (mn_s0_fr f1 h0T) hl (9 : Int32) (nI (mk_pr (mk_hd L))) (-1) 0
        rw [if_pos (show mj_b2 false = 0 from rfl), o1, mi_b, if_pos (show mj_b2 false = 0 ∨ mj_b2 false = 1 from Or.inl rfl)]
        have u7 : U.1 49 7 = 1 := by rw [o3, mi_w8]
        exact ⟨_, U, rfl, mn_A_rf1 (mn_A_w1 a3) o2 u7 _ hr', fun x => absurd (x.symm.trans u7) (by decide)⟩
      | true =>
        obtain ⟨U, o1, o2, o3, o4⟩ := mn_open0 (N := N) (R := R) (mn_s0_fr f1 h0T) (by omega) (102 : Int32) (nI (mk_pr (mk_hd L)))
        have u7 : U.1 49 7 = 1 := o3 (Or.inl (by rw [mi_w8]; decide))
        obtain ⟨V, b1, b2, b3⟩ := mn_A_take (N := N) (R := R) hN (mn_A_rf1 (mn_A_w1 a3) o2 u7 none (fun _ e => by cases e)) (fun _ L' e => by cases e)
        rw [if_neg (show ¬ mj_b2 true = 0 by decide), o1, mi_b, b1, mi_b, if_pos (show mj_b2 true = 0 ∨ mj_b2 true = 1 from Or.inr rfl)]
        have v7 : V.1 49 7 = 1 := mn_A_bad b3
        exact ⟨_, V, rfl, mn_A_rf1 b3 (mn_rf_rf V) v7 _ hr', fun x => absurd (x.symm.trans v7) (by decide)⟩
    by_cases t7 : T.1 49 7 = 0
    · obtain ⟨_, e, hw', hcd'⟩ := mn_A_70 a3 t7
      cases e
      rw [show (91 : Int64) = nL (mn_v 91 0) from rfl, mn_isSign hcd' (show 15 < 91 by omega) (Or.inl (by omega)), mi_b, if_pos t7]
      by_cases g91 : mk_hd L.tail = 91
      · rw [decide_eq_true g91, if_neg (show ¬ mj_b2 true = 0 by decide), if_pos g91, mf_Model_begins_b41, mf_Model_begins_b42, if_pos (Or.inl rfl), if_neg (show ¬ mj_b2 true = 0 by decide)]
        obtain ⟨u, V, o1, o2, o3, o4⟩ := mn_obr (N := N) (R := R) hN (mn_A_w0 a3 t7) (by rw [mi_w8]) (by omega) (mn_s0_fr (mn_fr_wi T 7 0 (by omega)) h0T) (by omega) 102 (mk_pr (mk_hd L)) (by omega) (by omega)
        rw [show (102 : Int32) = nI 102 from rfl, o1, mi_b, o2, mi_b, if_pos (show mj_b2 true = 0 ∨ mj_b2 true = 1 from Or.inr rfl)]
        refine ⟨_, V, rfl, o3, fun x s hs => ?_⟩
        by_cases g : d < 8
        · rw [if_pos g] at hs
          cases hs
          exact Or.inl ⟨rfl, rfl, o4 x g⟩
        · rw [if_neg g] at hs; cases hs
      · rw [decide_eq_false g91, if_pos (show mj_b2 false = 0 from rfl), if_neg g91]
        by_cases g0 : mk_pr (mk_hd L) = 0
        · rw [if_pos (by rw [g0]; rfl), if_pos g0]
          exact bad false none (fun s e => by cases e)
        · rw [if_neg (show ¬ nI (mk_pr (mk_hd L)) = (0 : Int32) from mi_neT (b := 0) (by omega) (by omega) g0), if_neg g0, mf_Model_begins_b41, mf_Model_begins_b42, if_pos (Or.inl rfl), if_pos (show mj_b2 false = 0 from rfl)]
          obtain ⟨U, o1, o2, o3, o4⟩ := mn_leaf (N := N) (R := R) (mn_s0_fr (mn_fr_wi T 7 0 (by omega)) h0T) hl (9 : Int32) (nI (mk_pr (mk_hd L))) (-1) 0
          rw [o1, mi_b, if_pos (show mj_b2 false = 0 ∨ mj_b2 false = 1 from Or.inl rfl)]
          refine ⟨_, U, rfl, mn_A_rf (mn_A_w0 a3 t7) o2 o3, fun _ s hs => ?_⟩
          cases hs
          exact Or.inr ⟨_, rfl, rfl, o4 9 (mk_pr (mk_hd L)) 0 0 rfl rfl (by omega) (by omega) (fun x => by omega) (fun x => by omega)⟩
    · obtain ⟨b, w⟩ := mn_isSign0 (N := N) (R := R) (91 : Int64) T
      have h2 := (mn_A_71 a3 t7).2 L.tail rfl
      rw [w, mi_b, if_neg t7, if_neg (show ¬ mk_hd L.tail = 91 by omega)]
      refine bad b _ (fun s hs => ?_)
      by_cases g0 : mk_pr (mk_hd L) = 0
      · rw [if_pos g0] at hs; cases hs
      · rw [if_neg g0] at hs; cases hs; exact h2
end
