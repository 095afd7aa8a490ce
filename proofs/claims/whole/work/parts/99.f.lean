/-! THE CLASS's PARSER: its steps -/
/-- an outcome and what the parser by descent says -/
def mk_rs {α β : Type} (X : mw_X α) (r : Option β) (P : β → α → mw_T → Prop) : Prop := (∀ y, r = some y → ∃ v T, X = some (.inl v, T) ∧ P y v T) ∧ (r = none → ∃ T, X = some (.inr 0, T))
theorem mk_rs_ok {α β : Type} {X : mw_X α} {y : β} {P : β → α → mw_T → Prop} {v : α} {T : mw_T} (h : X = some (.inl v, T)) (hP : P y v T) : mk_rs X (some y) P := ⟨fun z hz => by cases hz; exact ⟨v, T, h, hP⟩, fun h => by cases h⟩
theorem mk_rs_no {α β : Type} {X : mw_X α} {P : β → α → mw_T → Prop} {T : mw_T} (h : X = some (.inr 0, T)) : mk_rs X none P := ⟨fun z hz => (by cases hz), fun _ => ⟨T, h⟩⟩
theorem mk_rs_b {α β α' β' : Type} {X : mw_X α} {r : Option β} {P : β → α → mw_T → Prop} {g : α → mw_T → mw_X α'} {k : β → Option β'} {Q : β' → α' → mw_T → Prop} (h : mk_rs X r P) (hg : ∀ y v T, r = some y → P y v T → mk_rs (g v T) (k y) Q) : mk_rs (mw_b X g) (r.bind k) Q := by
  cases r with
  | none =>
    obtain ⟨T, rfl⟩ := h.2 rfl
    exact mk_rs_no mi_bx
  | some y =>
    obtain ⟨v, T, rfl, hP⟩ := h.1 y rfl
    rw [mi_b, Option.bind_some]
    exact hg y v T rfl hP
theorem mk_rs_w {α β : Type} {X : mw_X α} {r : Option β} {P Q : β → α → mw_T → Prop} (h : mk_rs X r P) (hg : ∀ y v T, r = some y → P y v T → Q y v T) : mk_rs X r Q :=
  ⟨fun y hy => by obtain ⟨v, T, e, hP⟩ := h.1 y hy; exact ⟨v, T, e, hg y v T hy hP⟩, h.2⟩
theorem mk_bid {β : Type} (r : Option β) : r.bind some = r := by cases r <;> rfl
/-- tokens in the class's rows -/
def mk_wT (M : mk_L) : Prop := ∀ z ∈ M, z.1 ≠ 0 ∧ z.1 < 100000 ∧ z.2 < 4294967296
def mk_TC (o : Nat) (t : mw_T) (M : mk_L) : Prop := M.length ≤ 160 ∧ t.1 (22 + o) 2 = nI M.length ∧ ∀ (k : Nat) (z : Nat × Nat), M[k]? = some z → t.1 (23 + o) k = nI z.1 ∧ (z.1 = 1 → t.2.1 (24 + o) k = nL z.2)
def mk_ST (o : Nat) (t : mw_T) (M L : mk_L) (d b : Nat) : Prop := mk_TC o t M ∧ (∃ p, M = p ++ L ∧ t.1 (21 + o) 2 = nI p.length) ∧ t.1 (21 + o) 3 = nI d ∧ t.1 (8 + o) 7 = nI b
/-- the nodes below b stay -/
def mk_kp (o b : Nat) (t T : mw_T) : Prop := ∀ q, 9 ≤ q → q ≤ 15 → ∀ i, i < b → T.1 (q + o) i = t.1 (q + o) i ∧ T.2.1 (q + o) i = t.2.1 (q + o) i
theorem mk_kp_rf (o b : Nat) (t : mw_T) : mk_kp o b t t := fun _ _ _ _ _ => ⟨rfl, rfl⟩
theorem mk_kp_tr {o b c : Nat} {t u T : mw_T} (h : mk_kp o b t u) (g : mk_kp o c u T) (hbc : b ≤ c) : mk_kp o b t T := fun q h1 h2 i hi => ⟨(g q h1 h2 i (by omega)).1.trans (h q h1 h2 i hi).1, (g q h1 h2 i (by omega)).2.trans (h q h1 h2 i hi).2⟩
def mk_Q (o : Nat) (t : mw_T) (M : mk_L) (d b : Nat) (L : mk_L) (T : mw_T) : Prop := mk_ST o T M L d b ∧ mk_kp o b t T
theorem mk_hd_lt {M L : mk_L} (hM : mk_wT M) {p : mk_L} (e : M = p ++ L) : mk_hd L < 100000 ∧ mk_hv L < 4294967296 := by
  cases L with
  | nil => exact ⟨by decide, by decide⟩
  | cons z L =>
    have := hM z (by rw [e]; simp)
    exact ⟨this.2.1, this.2.2⟩
def mk_adv (o : Nat) (t : mw_T) : mw_T := mw_wi t (21 + o) 2 ((t.1 (21 + o) 2) + (1 : Int32))
section
variable {N R o : Nat}
theorem mk_ST_adv {t : mw_T} {M L : mk_L} {d b : Nat} (h : mk_ST o t M L d b) (h0 : mk_hd L ≠ 0) : mk_Q o t M d b L.tail (mk_adv o t) := by
  obtain ⟨⟨h1, h2, h3⟩, ⟨p, h4, h5⟩, h6, h7⟩ := h
  cases L with
  | nil => exact absurd rfl h0
  | cons z L =>
    refine ⟨⟨⟨h1, ?_, fun k y hy => ?_⟩, ⟨p ++ [z], by rw [h4]; simp, ?_⟩, ?_, ?_⟩, fun q g1 g2 i hi => ⟨?_, rfl⟩⟩
    · rw [mk_adv, mi_wi, if_neg (by omega)]; exact h2
    · rw [mk_adv, mi_wi, if_neg (by omega)]; exact h3 k y hy
    · rw [mk_adv, mi_wi, if_pos rfl, if_pos rfl, h5, show (1 : Int32) = nI 1 from rfl, mi_add]; simp
    · rw [mk_adv, mi_wi, if_pos rfl, if_neg (by omega)]; exact h6
    · rw [mk_adv, mi_wi, if_neg (by omega)]; exact h7
    · rw [mk_adv, mi_wi, if_neg (by omega)]
theorem mk_kind {t : mw_T} {M L : mk_L} {d b : Nat} (h : mk_ST o t M L d b) : mf_Tokens_kind N R o (t.1 (21 + o) 2) t = some (.inl (nI (mk_hd L)), t) := by
  obtain ⟨⟨h1, h2, h3⟩, ⟨p, h4, h5⟩, h6, h7⟩ := h
  have hl : M.length = p.length + L.length := by rw [h4, List.length_append]
  rw [mf_Tokens_kind, h5, h2]
  cases L with
  | nil =>
    rw [if_neg (mi_ltF (by omega) (by rw [hl]; simp))]
    rfl
  | cons z L =>
    rw [List.length_cons] at hl
    rw [if_pos (mi_ltT (by omega) (by omega)), if_pos (mi_inT (by omega) (by omega)), mi_tn (by omega), (h3 p.length z (by rw [h4]; simp)).1]
    rfl
theorem mk_kind1 {t : mw_T} {M L : mk_L} {d b : Nat} (h : mk_ST o t M L d b) : mf_Tokens_kind N R o ((t.1 (21 + o) 2) + (1 : Int32)) t = some (.inl (nI (mk_hd L.tail)), t) := by
  obtain ⟨⟨h1, h2, h3⟩, ⟨p, h4, h5⟩, h6, h7⟩ := h
  have hl : M.length = p.length + L.length := by rw [h4, List.length_append]
  rw [mf_Tokens_kind, h5, h2, show (1 : Int32) = nI 1 from rfl, mi_add]
  rcases L with _ | ⟨z, _ | ⟨y, L⟩⟩
  · rw [if_neg (mi_ltF (by omega) (by rw [hl]; simp))]
    rfl
  · rw [if_neg (mi_ltF (by omega) (by rw [hl]; simp))]
    rfl
  · simp only [List.length_cons] at hl
    rw [if_pos (mi_ltT (by omega) (by omega)), if_pos (mi_inT (by omega) (by omega)), mi_tn (by omega), (h3 (p.length + 1) y (by rw [h4]; simp)).1]
    rfl
theorem mk_accept {t : mw_T} {M L : mk_L} {d b : Nat} (hM : mk_wT M) (h : mk_ST o t M L d b) (k : Nat) (hk : k < 100000) : mf_Parser_accept N R o (nI k) t = some (.inl (if mk_hd L = k then 1 else 0), if mk_hd L = k then mk_adv o t else t) := by
  obtain ⟨_, ⟨p, h4, h5⟩, _⟩ := id h
  have hlt := (mk_hd_lt hM h4).1
  rw [mf_Parser_accept, mk_kind h, mi_b]
  by_cases e : mk_hd L = k
  · rw [if_pos (by rw [e]), if_pos e, if_pos e, mf_Parser_accept_b20, if_neg (by decide), if_pos (Or.inr rfl)]
    rfl
  · rw [if_neg (mi_neT (by omega) (by omega) e), if_neg e, if_neg e, mf_Parser_accept_b20, if_pos rfl, if_pos (Or.inl rfl)]
theorem mk_expect {t : mw_T} {M L : mk_L} {d b : Nat} (hM : mk_wT M) (h : mk_ST o t M L d b) (k : Nat) (hk : k < 100000) (hk0 : k ≠ 0) : mk_rs (mf_Parser_expect N R o (nI k) t) (mk_ex k L) (fun y _ T => mk_Q o t M d b y T) := by
  obtain ⟨_, ⟨p, h4, h5⟩, _⟩ := id h
  have hlt := (mk_hd_lt hM h4).1
  rw [mf_Parser_expect, mk_kind h, mi_b, mk_ex]
  by_cases e : mk_hd L = k
  · rw [if_pos (by rw [e]), if_pos e]
    exact mk_rs_ok rfl (mk_ST_adv h (by omega))
  · rw [if_neg (mi_neT (by omega) (by omega) e), if_neg e]
    exact mk_rs_no rfl
theorem mk_Q_tr {t u T : mw_T} {M L L' : mk_L} {d d' b : Nat} (h : mk_Q o t M d b L u) (g : mk_Q o u M d' b L' T) : mk_Q o t M d' b L' T := ⟨g.1, mk_kp_tr h.2 g.2 (Nat.le_refl _)⟩
theorem mk_number {t : mw_T} {M L : mk_L} {d b : Nat} (hM : mk_wT M) (h : mk_ST o t M L d b) (hi : Nat) (hhi : hi < 4294967296) : mk_rs (mf_Parser_numberUpTo N R o (nL hi) t) (mk_num hi L) (fun y v T => v = nL y.1 ∧ mk_Q o t M d b y.2 T) := by
  obtain ⟨⟨h1, h2, h3⟩, ⟨p, h4, h5⟩, h6, h7⟩ := id h
  have hl : M.length = p.length + L.length := by rw [h4, List.length_append]
  obtain ⟨hlt, hvt⟩ := mk_hd_lt hM h4
  -- the number that stands there
  have hnum : ∃ v, mf_Tokens_number N R o (t.1 (21 + o) 2) t = some (.inl v, t) ∧ (mk_hd L = 1 → v = nL (mk_hv L)) := by
    rw [mf_Tokens_number, h5, h2]
    cases L with
    | nil =>
      rw [if_neg (mi_ltF (by omega) (by rw [hl]; simp))]
      exact ⟨_, rfl, fun h => absurd h (by decide)⟩
    | cons z L =>
      rw [List.length_cons] at hl
      rw [if_pos (mi_ltT (by omega) (by omega)), if_pos (mi_inT (by omega) (by omega)), mi_tn (by omega)]
      exact ⟨_, rfl, fun h => (h3 p.length z (by rw [h4]; simp)).2 h⟩
  obtain ⟨v, e1, e2⟩ := hnum
  rw [mf_Parser_numberUpTo, e1, mi_b, mf_Parser_expect, mk_kind h, mi_b, mk_num]
  by_cases e : mk_hd L = 1
  · rw [if_pos (by rw [e]; rfl), mi_b, e2 e]
    by_cases hv : mk_hv L ≤ hi
    · rw [if_neg (by rw [mi_ltL (by omega) (by omega)]; omega), if_pos ⟨e, hv⟩]
      exact mk_rs_ok rfl ⟨rfl, mk_ST_adv h (by omega)⟩
    · rw [if_pos (by rw [mi_ltL (by omega) (by omega)]; omega), if_neg (fun hh => hv hh.2)]
      exact mk_rs_no rfl
  · rw [if_neg (show ¬ nI (mk_hd L) = (1 : Int32) from mi_neT (b := 1) (by omega) (by omega) e), if_neg (fun hh => e hh.1)]
    exact mk_rs_no mi_bx
theorem mk_enter {t : mw_T} {M L : mk_L} {d b : Nat} (h : mk_ST o t M L d b) (hd : d ≤ 8) : (d = 8 → mf_Parser_enter N R o t = some (.inr 0, mw_we t)) ∧ (d ≠ 8 → ∃ T, mf_Parser_enter N R o t = some (.inl (), T) ∧ mk_Q o t M (d + 1) b L T) := by
  obtain ⟨⟨h1, h2, h3⟩, ⟨p, h4, h5⟩, h6, h7⟩ := h
  refine ⟨fun e => ?_, fun e => ⟨mw_wi t (21 + o) 3 (nI d + 1), (by rw [mf_Parser_enter, h6, if_neg (show ¬ nI d = (8 : Int32) from mi_neT (b := 8) (by omega) (by omega) e)]), ⟨⟨h1, ?_, fun k y hy => ?_⟩, ⟨p, h4, ?_⟩, ?_, ?_⟩, fun q g1 g2 i hi => ⟨?_, rfl⟩⟩⟩
  · rw [mf_Parser_enter, h6, if_pos (by rw [e]; rfl)]
  · rw [mi_wi, if_neg (by omega)]; exact h2
  · rw [mi_wi, if_neg (by omega)]; exact h3 k y hy
  · rw [mi_wi, if_pos rfl, if_neg (by omega)]; exact h5
  · rw [mi_wi, if_pos rfl, if_pos rfl, show (1 : Int32) = nI 1 from rfl, mi_add]
  · rw [mi_wi, if_neg (by omega)]; exact h7
  · rw [mi_wi, if_neg (by omega)]
theorem mk_leave {t : mw_T} {M L : mk_L} {d b : Nat} (hM : mk_wT M) (h : mk_ST o t M L (d + 1) b) (k : Nat) (hk : k < 100000) (hk0 : k ≠ 0) : mk_rs (mf_Parser_leave N R o (nI k) t) (mk_ex k L) (fun y _ T => mk_Q o t M d b y T) := by
  rw [mf_Parser_leave, ← mk_bid (mk_ex k L)]
  refine mk_rs_b (mk_expect hM h k hk hk0) (fun y v T _ hT => mk_rs_ok rfl ?_)
  obtain ⟨⟨⟨h1, h2, h3⟩, ⟨p, h4, h5⟩, h6, h7⟩, h8⟩ := hT
  refine ⟨⟨⟨h1, ?_, fun k y hy => ?_⟩, ⟨p, h4, ?_⟩, ?_, ?_⟩, fun q g1 g2 i hi => ⟨?_, (h8 q g1 g2 i hi).2⟩⟩
  · rw [mi_wi, if_neg (by omega)]; exact h2
  · rw [mi_wi, if_neg (by omega)]; exact h3 k y hy
  · rw [mi_wi, if_pos rfl, if_neg (by omega)]; exact h5
  · rw [mi_wi, if_pos rfl, if_pos rfl, h6, show (1 : Int32) = nI 1 from rfl, mi_sub (by omega)]; rfl
  · rw [mi_wi, if_neg (by omega)]; exact h7
  · rw [mi_wi, if_neg (by omega)]; exact (h8 q g1 g2 i hi).1
/-! nodes -/
theorem mt_RC_kp {e : Nat} {t T : mw_T} (h : mk_kp o e t T) : ∀ (X : mt_T) (b : Nat), b + mt_sz X ≤ e → mt_RC o t b X → mt_RC o T b X := by
  intro X
  induction X using mt_sz.induct with
  | case1 k a n m l r ih1 ih2 =>
    intro b hb hp
    rw [mt_sz] at hb
    rw [mt_RC] at hp ⊢
    obtain ⟨⟨p1, p2, p3, p4, p5, p6, p7⟩, q1, q2⟩ := hp
    have hi : b + mt_sz l + mt_sz r < e := by omega
    refine ⟨⟨(h 9 (by omega) (by omega) _ hi).1.trans p1, (h 10 (by omega) (by omega) _ hi).1.trans p2, fun x y => (h 11 (by omega) (by omega) _ hi).1.trans (p3 x y), fun x => (h 12 (by omega) (by omega) _ hi).1.trans (p4 x), fun x => ⟨(h 13 (by omega) (by omega) _ hi).1.trans (p5 x).1, (h 14 (by omega) (by omega) _ hi).2.trans (p5 x).2⟩, fun x => (h 14 (by omega) (by omega) _ hi).2.trans (p6 x), fun x => (h 15 (by omega) (by omega) _ hi).2.trans (p7 x)⟩, ih1 b (by omega) q1, ih2 _ (by omega) q2⟩
  | case2 X hX =>
    intro b _ _
    rw [mt_RC]
    · trivial
    · exact hX
def mk_aj (o : Nat) (t : mw_T) (b : Nat) (x1 x2 x3 x4 : Int32) : mw_T := mw_wi (mw_wi (mw_wi (mw_wi (mw_wi t (9 + o) b x1) (10 + o) b x2) (11 + o) b x3) (12 + o) b x4) (8 + o) 7 (nI (b + 1))
theorem mk_addJoint {t : mw_T} {b : Nat} (h : t.1 (8 + o) 7 = nI b) (hb : b < 160) (x1 x2 x3 x4 : Int32) : mf_Tree_addJoint N R o x1 x2 x3 x4 t = some (.inl (nI b), mk_aj o t b x1 x2 x3 x4) := by
  have hin : mj_in (nI b) 160 = true := mi_inT (by omega) hb
  rw [mf_Tree_addJoint, h, if_pos hin, if_pos hin, if_pos hin, if_pos hin, mi_tn (by omega), show (1 : Int32) = nI 1 from rfl, mi_add]
  rfl
theorem mk_aj_i (t : mw_T) (b : Nat) (x1 x2 x3 x4 : Int32) (q i : Nat) : (mk_aj o t b x1 x2 x3 x4).1 (q + o) i = if q = 8 ∧ i = 7 then nI (b + 1) else if q = 12 ∧ i = b then x4 else if q = 11 ∧ i = b then x3 else if q = 10 ∧ i = b then x2 else if q = 9 ∧ i = b then x1 else t.1 (q + o) i := by
  rw [mk_aj, mi_wi, mi_wi, mi_wi, mi_wi, mi_wi]
  by_cases h8 : q = 8
  · subst h8
    rw [if_pos rfl]
    by_cases h7 : i = 7
    · rw [if_pos h7, if_pos ⟨rfl, h7⟩]
    · rw [if_neg h7, if_neg (by omega), if_neg (by omega), if_neg (by omega), if_neg (by omega), if_neg (by omega), if_neg (by omega), if_neg (by omega), if_neg (by omega), if_neg (by omega)]
  rw [if_neg (by omega), if_neg (show ¬ (q = 8 ∧ i = 7) by omega)]
  by_cases h12 : q = 12
  · subst h12
    rw [if_pos rfl, if_neg (show ¬ (12 + o = 11 + o) by omega), if_neg (show ¬ (12 + o = 10 + o) by omega), if_neg (show ¬ (12 + o = 9 + o) by omega)]
    by_cases hi : i = b
    · rw [if_pos hi, if_pos ⟨rfl, hi⟩]
    · rw [if_neg hi, if_neg (by omega), if_neg (by omega), if_neg (by omega), if_neg (by omega)]
  rw [if_neg (show ¬ (q + o = 12 + o) by omega), if_neg (show ¬ (q = 12 ∧ i = b) by omega)]
  by_cases h11 : q = 11
  · subst h11
    rw [if_pos rfl, if_neg (show ¬ (11 + o = 10 + o) by omega), if_neg (show ¬ (11 + o = 9 + o) by omega)]
    by_cases hi : i = b
    · rw [if_pos hi, if_pos ⟨rfl, hi⟩]
    · rw [if_neg hi, if_neg (by omega), if_neg (by omega), if_neg (by omega)]
  rw [if_neg (show ¬ (q + o = 11 + o) by omega), if_neg (show ¬ (q = 11 ∧ i = b) by omega)]
  by_cases h10 : q = 10
  · subst h10
    rw [if_pos rfl, if_neg (show ¬ (10 + o = 9 + o) by omega)]
    by_cases hi : i = b
    · rw [if_pos hi, if_pos ⟨rfl, hi⟩]
    · rw [if_neg hi, if_neg (by omega), if_neg (by omega)]
  rw [if_neg (show ¬ (q + o = 10 + o) by omega), if_neg (show ¬ (q = 10 ∧ i = b) by omega)]
  by_cases h9 : q = 9
  · subst h9
    rw [if_pos rfl]
    by_cases hi : i = b
    · rw [if_pos hi, if_pos ⟨rfl, hi⟩]
    · rw [if_neg hi, if_neg (by omega)]
  rw [if_neg (show ¬ (q + o = 9 + o) by omega), if_neg (show ¬ (q = 9 ∧ i = b) by omega)]
/-- states with a node more -/
def mk_nx (o b : Nat) (t T : mw_T) : Prop := T.1 (8 + o) 7 = nI (b + 1) ∧ (∀ q, 21 ≤ q → q ≤ 24 → ∀ i, T.1 (q + o) i = t.1 (q + o) i ∧ T.2.1 (q + o) i = t.2.1 (q + o) i) ∧ mk_kp o b t T
theorem mk_aj_nx (t : mw_T) (b : Nat) (x1 x2 x3 x4 : Int32) : mk_nx o b t (mk_aj o t b x1 x2 x3 x4) := by
  refine ⟨?_, fun q g1 g2 i => ⟨?_, rfl⟩, fun q g1 g2 i hi => ⟨?_, rfl⟩⟩
  · rw [mk_aj_i, if_pos ⟨rfl, rfl⟩]
  · rw [mk_aj_i, if_neg (by omega), if_neg (by omega), if_neg (by omega), if_neg (by omega), if_neg (by omega)]
  · rw [mk_aj_i, if_neg (by omega), if_neg (by omega), if_neg (by omega), if_neg (by omega), if_neg (by omega)]
theorem mk_ST_nx {t T : mw_T} {M L : mk_L} {d b : Nat} (h : mk_nx o b t T) (hs : mk_ST o t M L d b) : mk_ST o T M L d (b + 1) := by
  obtain ⟨⟨h1, h2, h3⟩, ⟨p, h4, h5⟩, h6, h7⟩ := hs
  refine ⟨⟨h1, (h.2.1 22 (by omega) (by omega) _).1.trans h2, fun k y hy => ⟨(h.2.1 23 (by omega) (by omega) _).1.trans (h3 k y hy).1, fun e => (h.2.1 24 (by omega) (by omega) _).2.trans ((h3 k y hy).2 e)⟩⟩, ⟨p, h4, (h.2.1 21 (by omega) (by omega) _).1.trans h5⟩, (h.2.1 21 (by omega) (by omega) _).1.trans h6, h.1⟩
def mk_W (o : Nat) (t : mw_T) (M : mk_L) (d b : Nat) (Y : mt_T × mk_L) (v : Int32) (T : mw_T) : Prop := v = nI (b + mt_sz Y.1 - 1) ∧ mk_ST o T M Y.2 d (b + mt_sz Y.1) ∧ mt_RC o T b Y.1 ∧ mk_kp o b t T
/-- a node over its parts -/
theorem mk_W_nd {t u T : mw_T} {M L : mk_L} {d b k a n m : Nat} {l r : mt_T} (hs : mk_ST o u M L d (b + mt_sz l + mt_sz r)) (hk : mk_kp o b t u) (hl : mt_RC o u b l) (hr : mt_RC o u (b + mt_sz l) r) (hx : mk_nx o (b + mt_sz l + mt_sz r) u T) (hn : mt_nC o T b k a n m l r) : mk_W o t M d b (mt_nd k a n m l r, L) (nI (b + mt_sz l + mt_sz r)) T := by
  refine ⟨?_, ?_, ?_, mk_kp_tr hk hx.2.2 (by omega)⟩
  · simp only; rw [mt_sz_nd, show b + (mt_sz l + mt_sz r + 1) - 1 = b + mt_sz l + mt_sz r by omega]
  · simp only; rw [mt_sz_nd, show b + (mt_sz l + mt_sz r + 1) = b + mt_sz l + mt_sz r + 1 by omega]
    exact mk_ST_nx hx hs
  · simp only; rw [mt_RC_nd]
    exact ⟨hn, mt_RC_kp hx.2.2 l b (by omega) hl, mt_RC_kp hx.2.2 r _ (by omega) hr⟩
end
