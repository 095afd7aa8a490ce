/-! COMPILE: the class and the reference -/
def mi_kC (o : Nat) (t T : mw_T) : Prop := ∀ q i, 8 ≤ q → q ≤ 20 → T.1 (q + o) i = t.1 (q + o) i ∧ T.2.1 (q + o) i = t.2.1 (q + o) i
abbrev mi_sFM : List (Nat × Nat) := [(49, 25), (49, 36), (63, 1000), (64, 1000), (65, 1000), (66, 1000), (67, 1000), (68, 1000), (69, 1000), (70, 1000), (76, 1000), (77, 1000), (78, 1000), (79, 1000)]
theorem mi_kC_tr {o : Nat} {t u T : mw_T} (h : mi_kC o t u) (g : mi_kC o u T) : mi_kC o t T := fun q i h1 h2 => ⟨(g q i h1 h2).1.trans (h q i h1 h2).1, (g q i h1 h2).2.trans (h q i h1 h2).2⟩
theorem mi_kC_same {A B : List (Nat × Nat)} {o : Nat} {t T : mw_T} (ho : o = 0 ∨ o = 21) (hd : (A.all (fun y => Nat.ble 21 y.1 && Nat.ble y.1 27) && B.all (fun y => Nat.blt y.1 7 || Nat.blt 48 y.1)) = true) (h : ∀ q i, ¬ mw_ws A o B q i → T.1 q i = t.1 q i ∧ T.2.1 q i = t.2.1 q i) : mi_kC o t T := by
  intro q i h1 h2
  refine h _ _ ?_
  rw [Bool.and_eq_true] at hd
  rintro (⟨y, hy, e1, _⟩ | ⟨y, hy, e1, _⟩)
  · have := List.all_eq_true.mp hd.1 y hy
    rw [Bool.and_eq_true, Nat.ble_eq, Nat.ble_eq] at this
    omega
  · have := List.all_eq_true.mp hd.2 y hy
    rw [Bool.or_eq_true, Nat.blt_eq, Nat.blt_eq] at this
    omega
theorem mi_kC_other {A B : List (Nat × Nat)} {o : Nat} {t T : mw_T} (ho : o = 0 ∨ o = 21) (hd : (A.all (fun y => Nat.ble 7 y.1 && Nat.ble y.1 27) && B.all (fun y => Nat.blt y.1 7 || Nat.blt 48 y.1)) = true) (h : ∀ q i, ¬ mw_ws A (21 - o) B q i → T.1 q i = t.1 q i ∧ T.2.1 q i = t.2.1 q i) : mi_kC o t T := by
  intro q i h1 h2
  refine h _ _ ?_
  rw [Bool.and_eq_true] at hd
  rintro (⟨y, hy, e1, _⟩ | ⟨y, hy, e1, _⟩)
  · have := List.all_eq_true.mp hd.1 y hy
    rw [Bool.and_eq_true, Nat.ble_eq, Nat.ble_eq] at this
    omega
  · have := List.all_eq_true.mp hd.2 y hy
    rw [Bool.or_eq_true, Nat.blt_eq, Nat.blt_eq] at this
    omega
theorem mi_kC_mod {B : List (Nat × Nat)} {o : Nat} {t T : mw_T} (ho : o = 0 ∨ o = 21) (h : ∀ q i, ¬ mw_ws [] 0 B q i → T.1 q i = t.1 q i ∧ T.2.1 q i = t.2.1 q i) (hd : (B.all (fun y => Nat.blt y.1 7 || Nat.blt 48 y.1)) = true) : mi_kC o t T := by
  intro q i h1 h2
  refine h _ _ ?_
  rintro (⟨y, hy, e1, _⟩ | ⟨y, hy, e1, _⟩)
  · cases hy
  · have := List.all_eq_true.mp hd y hy
    rw [Bool.or_eq_true, Nat.blt_eq, Nat.blt_eq] at this
    omega
theorem mi_kC_wi {o : Nat} (ho : o = 0 ∨ o = 21) (t : mw_T) (r i : Nat) (v : Int32) (hr : r < 7 ∨ 48 < r) : mi_kC o t (mw_wi t r i v) := fun q j h1 h2 => ⟨mi_w6 _ _ _ _ _ _ (by omega), rfl⟩
theorem mi_kC_wl {o : Nat} (ho : o = 0 ∨ o = 21) (t : mw_T) (r i : Nat) (v : Int64) (hr : r < 7 ∨ 48 < r) : mi_kC o t (mw_wl t r i v) := fun q j h1 h2 => ⟨rfl, mi_w7 _ _ _ _ _ _ (by omega)⟩
theorem mi_PrgC_kC {P : mi_P} {o : Nat} {t T : mw_T} (k : mi_kC o t T) (h : mi_PrgC P o t) : mi_PrgC P o T := by
  refine ⟨by rw [(k 16 _ (by omega) (by omega)).1]; exact h.1, fun j z hz => ?_⟩
  rw [(k 17 _ (by omega) (by omega)).1, (k 18 _ (by omega) (by omega)).1, (k 19 _ (by omega) (by omega)).1, (k 20 _ (by omega) (by omega)).2]
  exact h.2 j z hz
theorem mt_eqC_kC {o : Nat} {t T : mw_T} (k : mi_kC o t T) : mt_eqC o t T := fun q h1 h2 => ⟨fun i => (k q i (by omega) (by omega)).1, fun i => (k q i (by omega) (by omega)).2⟩
theorem mi_Prg_k {P : mi_P} {o : Nat} {t T : mw_T} (k : mi_kC o t T) (g : mi_ag mi_sFM t T) (h : mi_Prg P o t) : mi_Prg P o T := by
  obtain ⟨h1, h2, h3, h4, h5⟩ := h
  have e25 := mi_agI g (r := 49) (f := 25) (by simp) 25 (Or.inr rfl)
  refine ⟨h1, mi_PrgC_kC k h2, ⟨?_, fun j z hz => ?_⟩, fun e => by rw [e25]; exact h4 e, fun e => by rw [e25]; exact h5 e⟩
  · rw [mi_agI g (r := 49) (f := 36) (by simp) 36 (Or.inr rfl)]; exact h3.1
  · rw [mi_agI g (r := 76) (f := 1000) (by simp) j (Or.inl rfl), mi_agI g (r := 77) (f := 1000) (by simp) j (Or.inl rfl), mi_agI g (r := 78) (f := 1000) (by simp) j (Or.inl rfl), mi_agL g (r := 79) (f := 1000) (by simp) j (Or.inl rfl)]
    exact h3.2 j z hz
theorem mi_Tre_k {o : Nat} {t T : mw_T} (k : mi_kC o t T) (g : mi_ag mi_sFM t T) (h : mi_Tre o t) : mi_Tre o T := by
  obtain ⟨X, Y, h1, h2, h3, h4, h5, h6, h7, h8, h9, h10⟩ := h
  refine ⟨X, Y, h1, h2, h3, h4, h5, by rw [(k 8 _ (by omega) (by omega)).1]; exact h6, mt_RC_eq (mt_eqC_kC k) X 0 h7, ?_, ?_, ?_⟩
  · rw [mi_agI g (r := 49) (f := 25) (by simp) 25 (Or.inr rfl)]; exact h8
  · refine mt_RM_eq (t := t) (T := T) (e := mt_sz Y) (fun i _ => ⟨⟨?_, ?_, ?_, ?_, ?_⟩, ?_⟩) Y 0 (by omega) h9
    · exact mi_agI g (r := 63) (f := 1000) (by simp) i (Or.inl rfl)
    · exact mi_agI g (r := 64) (f := 1000) (by simp) i (Or.inl rfl)
    · exact mi_agI g (r := 65) (f := 1000) (by simp) i (Or.inl rfl)
    · exact mi_agI g (r := 66) (f := 1000) (by simp) i (Or.inl rfl)
    · exact mi_agI g (r := 67) (f := 1000) (by simp) i (Or.inl rfl)
    · exact mi_agL g (r := 70) (f := 1000) (by simp) i (Or.inl rfl)
  · exact mt_LB_eq (t := t) (T := T) (e := mt_sz Y) (fun i _ => ⟨mi_agI g (r := 68) (f := 1000) (by simp) i (Or.inl rfl), mi_agI g (r := 69) (f := 1000) (by simp) i (Or.inl rfl)⟩) Y 0 _ _ (by omega) h10
theorem mi_ag_sub {S S' : List (Nat × Nat)} {t T : mw_T} (hs : ∀ x ∈ S, x ∈ S') (h : mi_ag S' t T) : mi_ag S t T := fun x hx i hi => h x (hs x hx) i hi
theorem mi_ag_wi {S : List (Nat × Nat)} (t : mw_T) (r i : Nat) (v : Int32) (hs : S.all (fun x => !(Nat.beq x.1 r) || (!(Nat.beq x.2 1000) && !(Nat.beq x.2 i))) = true) : mi_ag S t (mw_wi t r i v) := by
  intro x hx j hj
  have := List.all_eq_true.mp hs x hx
  simp only [Bool.or_eq_true, Bool.and_eq_true, Bool.not_eq_true', ← Bool.not_eq_true, Nat.beq_eq] at this
  exact ⟨mi_w6 _ _ _ _ _ _ (by omega), rfl⟩
theorem mi_ag_wl {S : List (Nat × Nat)} (t : mw_T) (r i : Nat) (v : Int64) (hs : S.all (fun x => !(Nat.beq x.1 r)) = true) : mi_ag S t (mw_wl t r i v) := by
  intro x hx j hj
  have := List.all_eq_true.mp hs x hx
  simp only [Bool.not_eq_true', ← Bool.not_eq_true, Nat.beq_eq] at this
  exact ⟨rfl, mi_w7 _ _ _ _ _ _ (by omega)⟩
theorem mk_TM_ag {S : List Nat} {t T : mw_T} (h : mi_ag [(49, 1), (50, 1000)] t T) (g : mk_TM S t) : mk_TM S T := ⟨g.1, by rw [mi_agI h (r := 49) (f := 1) (by simp) 1 (Or.inr rfl)]; exact g.2.1, fun i c hc => by rw [mi_agI h (r := 50) (f := 1000) (by simp) i (Or.inl rfl)]; exact g.2.2 i c hc⟩
/-- what no call of compile touches -/
abbrev mi_sOth : List (Nat × Nat) := [(3000, 1000), (3001, 0), (3, 1), (4, 1000), (49, 50), (83, 1000), (5, 2), (5, 3), (5, 4), (6, 1000), (49, 51), (49, 54), (49, 55), (84, 1000), (0, 0), (49, 8)]
section
variable {N R : Nat}
/-- the reference refuses -/
theorem ml_cno (hN : 1400 ≤ N) (hR : 160 ≤ R) {S : List Nat} {t : mw_T} (h : mk_TM S t) (hn : mk_all R (mk_lx S 0) = none) : ∃ T, mf_Model_compile N R t = some (.inl 0, T) ∧ T.1 49 0 = 1 ∧ mi_ag ((49, 1) :: mi_sFM) t T := by
  have h0 : mk_TM S (mw_wi t 49 0 (0 : Int32)) := mk_TM_ag (mi_ag_wi t 49 0 0 (by decide)) h
  obtain ⟨v, U, a1, a2⟩ := mn_reads (N := N) (R := R) (by omega) h0 (F := R) (by omega)
  rw [hn] at a2
  have hv : v = 0 := by
    rcases a2 with ⟨Y, e, _⟩ | ⟨_, e⟩
    · cases e
    · exact e
  subst hv
  rw [mf_Model_compile, a1, mi_b, if_pos rfl, mf_Model_refuse, mi_b]
  refine ⟨_, rfl, mi_w8 _ _ _ _, mi_ag_tr (mi_ag_wi t 49 0 0 (by decide)) (mi_ag_tr (mi_agF (o := 0) (Or.inl rfl) (mg_Model_reads N R _) a1 (by decide)) (mi_ag_wi U 49 0 1 (by decide)))⟩
/-- it makes the filter, or finds the program too long -/
theorem ml_cyes (hN : 1400 ≤ N) (hR : 160 ≤ R) {S : List Nat} {t : mw_T} (h : mk_TM S t) {X Y : mt_T} (hn : mk_all R (mk_lx S 0) = some (X, Y)) (hY : mt_C Y) (hs : mt_sz Y ≤ 160) (hk : mt_kk Y) :
    (mi_bd 0 false (mt_gf Y) = true → ∃ T, mf_Model_compile N R t = some (.inl 0, T) ∧ T.1 49 0 = 2 ∧ mi_ag ((49, 1) :: mi_sFM) t T) ∧
    (mi_bd 0 false (mt_gf Y) = false → ∃ T, mf_Model_compile N R t = some (.inl (nI ((mt_gf Y).length + 2)), T) ∧ T.1 49 0 = 0 ∧ T.1 49 1 = 0 ∧ mi_PrgM (mt_prog Y (t.2.1 49 8)) T ∧ T.1 49 25 = nI (mt_sz Y - 1) ∧ mt_RM 12 T 0 Y ∧ mt_LB 12 T 0 Y (-1) (-2)) := by
  have h0 : mk_TM S (mw_wi t 49 0 (0 : Int32)) := mk_TM_ag (mi_ag_wi t 49 0 0 (by decide)) h
  obtain ⟨v, U, a1, a2⟩ := mn_reads (N := N) (R := R) (by omega) h0 (F := R) (by omega)
  rw [hn] at a2
  have hv : v = 1 ∧ mt_RM 0 U 0 Y ∧ U.1 49 9 = nI (mt_sz Y) := by
    rcases a2 with ⟨Z, e, e2, e3, e4⟩ | ⟨e, _⟩
    · cases e; exact ⟨e2, e3, e4⟩
    · cases e
  obtain ⟨rfl, hM, h9⟩ := hv
  have u0 : U.1 49 0 = 0 := by
    have := mi_agI (mi_agF (S := [(49, 0)]) (o := 0) (Or.inl rfl) (mg_Model_reads N R _) a1 (by decide)) (r := 49) (f := 0) (by simp) 0 (Or.inr rfl)
    rw [this, mi_w8]
  have u8 : U.2.1 49 8 = t.2.1 49 8 := by
    have := mi_agL (mi_agF (S := [(49, 8)]) (o := 0) (Or.inl rfl) (mg_Model_reads N R _) a1 (by decide)) (r := 49) (f := 8) (by simp) 8 (Or.inr rfl)
    rw [this]; rfl
  have ag : mi_ag ((49, 1) :: mi_sFM) t U := mi_ag_tr (mi_ag_wi t 49 0 0 (by decide)) (mi_agF (o := 0) (Or.inl rfl) (mg_Model_reads N R _) a1 (by decide))
  obtain ⟨m1, m2⟩ := ml_mtail (N := N) (R := R) hN hY hs hk hM h9 u8
  rw [mf_Model_compile, a1, mi_b, if_neg (by decide)]
  refine ⟨fun hb => ?_, fun hb => ?_⟩
  · obtain ⟨T, b1, b2, b3⟩ := m1 hb
    exact ⟨T, b1, b2, mi_ag_tr ag (mi_ag_sub (by decide) b3)⟩
  · obtain ⟨T, b1, b2, b3⟩ := m2 hb
    exact ⟨T, b1, by rw [b2, u0], b3⟩
theorem mk_all_ok {F : Nat} {L : mk_L} {X Y : mt_T} (h : mk_all F L = some (X, Y)) (hL : L.length ≤ 160) : mt_C X ∧ mt_C Y ∧ mt_sz X ≤ 160 ∧ mt_sz Y ≤ 160 ∧ mt_kk Y ∧ mt_eqv X Y := by
  rw [mk_all] at h
  cases hf : mk_fil F F 0 L with
  | none => rw [hf] at h; cases h
  | some Z =>
    rw [hf, Option.bind_some] at h
    by_cases g : Z.2 = []
    · rw [if_pos g] at h
      obtain ⟨⟨k1, k2, k3, k4, k5, k6⟩, _⟩ := mk_fil_ok F 0 L Z hf
      have hz := Option.some.inj h
      have e1 := k3
      rw [if_neg (by decide)] at e1 k6
      rw [hz] at k1 k2 k4 k5 k6 e1
      simp only at k1 k2 k4 k5 k6 e1
      exact ⟨k1, k2, by omega, by omega, k5 (by omega), k6⟩
    · rw [if_neg g] at h; cases h
theorem mi_bd_eqv {X Y : mt_T} (hX : mt_C X) (hY : mt_C Y) (h : mt_eqv X Y) : mi_bd 0 false (mt_gf X) = mi_bd 0 false (mt_gf Y) ∧ (mt_gf X).length = (mt_gf Y).length := by
  obtain ⟨x1, x2⟩ := mt_ge_gf X hX 0 1
  obtain ⟨y1, y2⟩ := mt_ge_gf Y hY 0 1
  have e := h.2 0 1
  unfold mi_bd
  rw [← x1, ← x2, ← y1, ← y2, e]
  exact ⟨rfl, rfl⟩
theorem ml_compile (o : Nat) (ho : o = 0 ∨ o = 21) (hN : 1400 ≤ N) (hR : 160 ≤ R) {P : mi_P} {t : mw_T} {sn : Nat} (hx : mi_Txt t) (hsn : mi_Snp sn t) (hp : mi_Prg P o t) (ht : P ≠ [] → mi_Tre o t) : ∃ v o' t1 b t2, mf_Law_compile N R o t = some (.inl v, o', t1) ∧ (o' = 0 ∨ o' = 21) ∧ mf_Model_compile N R t1 = some (.inl b, t2) ∧ mf_Model_thrown N R t2 = some (.inl v, t2) ∧ (v = 0 → t2.2.1 85 0 = b.toInt64) ∧ mi_Txt t2 ∧ (∃ P', mi_Prg P' o' t2 ∧ (P' ≠ [] → mi_Tre o' t2)) ∧ t2.2.2 ≤ t.2.2 + 1 ∧ mi_ag mi_sOth t t2 := by
  obtain ⟨n, hn⟩ := hx
  obtain ⟨S, s1, s2⟩ := mk_TX_of hn
  have ho' : 21 - o = 0 ∨ 21 - o = 21 := by omega
  have hS := s2.1.1
  obtain ⟨lw, ll⟩ := mk_lx_ok s2.1 S.length 0 (by omega)
  have par := mk_parse (N := N) (R := R) (o := 21 - o) ho' (by omega) (by omega) s2
  -- an old filter stays
  have stay : ∀ (v : Int32) (t1 : mw_T), mf_Law_compile N R o t = some (.inl v, o, t1) → v ≠ 0 → mi_kC o t t1 → mi_ag (mi_sOth ++ mi_sTxt ++ mi_sFM) t t1 → t1.2.2 = t.2.2 + 1 → (∃ t2, mf_Model_compile N R t1 = some (.inl 0, t2) ∧ t2.1 49 0 = v ∧ mi_ag ((49, 1) :: mi_sFM) t1 t2) → ∃ v o' t1 b t2, mf_Law_compile N R o t = some (.inl v, o', t1) ∧ (o' = 0 ∨ o' = 21) ∧ mf_Model_compile N R t1 = some (.inl b, t2) ∧ mf_Model_thrown N R t2 = some (.inl v, t2) ∧ (v = 0 → t2.2.1 85 0 = b.toInt64) ∧ mi_Txt t2 ∧ (∃ P', mi_Prg P' o' t2 ∧ (P' ≠ [] → mi_Tre o' t2)) ∧ t2.2.2 ≤ t.2.2 + 1 ∧ mi_ag mi_sOth t t2 := by
    intro v t1 e1 hv kc ag ex ⟨t2, e2, e3, e4⟩
    obtain ⟨f1, f2⟩ := mg_Model_compile N R t1 _ _ e2
    have kc2 := mi_kC_tr kc (mi_kC_mod ho f1 (by decide))
    have ag2 : mi_ag mi_sFM t t2 := mi_ag_tr (mi_ag_sub (by decide) ag) (mi_ag_sub (by decide) e4)
    have agO : mi_ag mi_sOth t t2 := mi_ag_tr (mi_ag_sub (by decide) ag) (mi_ag_of (o := 0) (Or.inl rfl) (by decide) f1)
    have agT : mi_ag [(1, 1), (2, 1000), (50, 1000)] t t2 := mi_ag_tr (mi_ag_sub (by decide) ag) (mi_ag_of (o := 0) (Or.inl rfl) (by decide) f1)
    have agT1 : mi_ag [(49, 1)] t t2 := mi_ag_tr (mi_ag_sub (by decide) ag) (mi_ag_sub (by decide) e4)
    have agT2 : mi_ag mi_sTxt t t2 := by
      intro x hx i hi
      by_cases g : x ∈ [((49 : Nat), (1 : Nat))]
      · exact agT1 x g i hi
      · refine agT x ?_ i hi
        simp only [mi_sTxt, List.mem_cons, List.not_mem_nil, or_false] at hx g ⊢
        rcases hx with hx | hx | hx | hx
        · exact Or.inl hx
        · exact Or.inr (Or.inl hx)
        · exact absurd hx g
        · exact Or.inr (Or.inr hx)
    refine ⟨v, o, t1, 0, t2, e1, ho, e2, by rw [mf_Model_thrown, e3], fun g => absurd g hv, ⟨n, mi_TxtN_ag agT2 hn⟩, ⟨P, mi_Prg_k kc2 ag2 hp, fun g => mi_Tre_k kc2 ag2 (ht g)⟩, ?_, agO⟩
    rw [f2, ex]; exact Nat.le_refl _
  cases ha : mk_all R (mk_lx S 0) with
  | none =>
    obtain ⟨T, e⟩ := par.2 ha
    obtain ⟨f1, f2⟩ := mg_Parser_parse N R (21 - o) t _ _ e
    have ag : mi_ag (mi_sOth ++ mi_sTxt ++ mi_sFM) t T := mi_ag_of ho' (by decide) f1
    refine stay 1 T ?_ (by decide) (mi_kC_other ho (by decide) f1) ag f2 ?_
    · rw [mf_Law_compile, mf_Sieve_compile, e, mi_b4x, mi_t4x, if_pos rfl]
    · exact ml_cno hN hR (mk_TM_ag (mi_ag_sub (by decide) ag) (mk_TM_of s2)) ha
  | some W =>
    obtain ⟨X, Y⟩ := W
    obtain ⟨hX, hY, hsX, hsY, hkY, hE⟩ := mk_all_ok ha (by omega)
    obtain ⟨b1, b2⟩ := mi_bd_eqv hX hY hE
    obtain ⟨u, T1, e1, r1, r2⟩ := par.1 _ ha
    obtain ⟨f1, f2⟩ := mg_Parser_parse N R (21 - o) t _ _ e1
    have ag1 : mi_ag (mi_sOth ++ mi_sTxt ++ mi_sFM) t T1 := mi_ag_of ho' (by decide) f1
    have k1 : mi_kC o t T1 := mi_kC_other ho (by decide) f1
    obtain ⟨c1, c2⟩ := mt_c_trans (N := N) (R := R) (o := 21 - o) (by omega) (by omega) hX hsX r1 r2 (T1.1 0 0)
    cases hb : mi_bd 0 false (mt_gf X) with
    | true =>
      obtain ⟨T, e2⟩ := c2 hb
      obtain ⟨g1, g2⟩ := mg_Coder_translate N R (21 - o) (T1.1 0 0) T1 _ _ e2
      have ag : mi_ag (mi_sOth ++ mi_sTxt ++ mi_sFM) t T := mi_ag_tr ag1 (mi_ag_of ho' (by decide) g1)
      refine stay 2 T ?_ (by decide) (mi_kC_tr k1 (mi_kC_other ho (by decide) g1)) ag (by rw [g2, f2]; rfl) ?_
      · rw [mf_Law_compile, mf_Sieve_compile, e1, mi_b4, e2, mi_b4x, mi_t4x, if_neg (by decide), if_pos rfl]
      · exact (ml_cyes hN hR (mk_TM_ag (mi_ag_sub (by decide) ag) (mk_TM_of s2)) ha hY hsY hkY).1 (by rw [← b1]; exact hb)
    | false =>
      obtain ⟨T, e2, e3, e4, e5⟩ := c1 hb
      obtain ⟨g1, g2⟩ := mg_Coder_translate N R (21 - o) (T1.1 0 0) T1 _ _ e2
      have ag : mi_ag (mi_sOth ++ mi_sTxt ++ mi_sFM) t T := mi_ag_tr ag1 (mi_ag_of ho' (by decide) g1)
      have ew : T1.1 0 0 = nI sn := by rw [mi_agI ag1 (r := 0) (f := 0) (by simp) 0 (Or.inr rfl)]; exact hsn.2.2.1
      rw [ew] at e3
      have hu : mi_u (nI sn).toInt64 := ⟨sn, by have := hsn.2.1; omega, mi_IL hsn.2.1⟩
      have hok := mt_okP hX (by omega) hu hb
      have hlen := mt_prog_len hX (nI sn).toInt64
      have hl150 := hok.1
      let t1 := mw_wl (mw_wi T 1 1 (0 : Int32)) 85 0 (nI (mt_prog X (nI sn).toInt64).length).toInt64
      have law : mf_Law_compile N R o t = some (.inl 0, 21 - o, t1) := by
        rw [mf_Law_compile, mf_Sieve_compile, e1, mi_b4, e2, mi_b4, mf_Text_empty, mi_b4, mf_Program_size, mi_b4, mi_t4, if_pos (by decide), mi_w6 _ _ _ _ _ _ (by omega), e3.1, show (150 : Int32) = nI 150 from rfl, mi_sub (by omega), show 150 - (150 - (mt_prog X (nI sn).toInt64).length) = (mt_prog X (nI sn).toInt64).length by omega]
        rfl
      have agt : mi_ag (mi_sOth ++ [(49, 1), (50, 1000)]) t t1 := mi_ag_tr (mi_ag_sub (by decide) ag) (mi_ag_tr (mi_ag_wi T 1 1 0 (by decide)) (mi_ag_wl _ 85 0 _ (by decide)))
      have e8 : t1.2.1 49 8 = (nI sn).toInt64 := by rw [mi_agL agt (r := 49) (f := 8) (by simp) 8 (Or.inr rfl)]; exact hsn.2.2.2
      obtain ⟨t2, m1, m2, m3, m4, m5, m6, m7⟩ := (ml_cyes (N := N) (R := R) hN hR (mk_TM_ag (mi_ag_sub (by decide) agt) (mk_TM_of s2)) ha hY hsY hkY).2 (by rw [← b1]; exact hb)
      obtain ⟨q1, q2⟩ := mg_Model_compile N R t1 _ _ m1
      have kk : mi_kC (21 - o) T t2 := mi_kC_tr (mi_kC_tr (mi_kC_wi ho' T 1 1 0 (by omega)) (mi_kC_wl ho' _ 85 0 _ (by omega))) (mi_kC_mod ho' q1 (by decide))
      rw [e8] at m4
      have eP : mt_prog Y (nI sn).toInt64 = mt_prog X (nI sn).toInt64 := by unfold mt_prog; rw [hE.2]
      rw [eP] at m4
      have hYp := mt_C_pos hY
      refine ⟨0, 21 - o, t1, _, t2, law, ho', m1, by rw [mf_Model_thrown, m2], fun _ => ?_, ⟨0, by omega, ?_, m3, fun i hi => (by omega)⟩, ⟨_, ⟨hok, mi_PrgC_kC kk e3, m4, fun e => ?_, fun _ => ⟨mt_sz Y - 1, by omega, m5⟩⟩, fun _ => ⟨X, Y, hX, hY, hsX, hsY, hE.1, ?_, mt_RC_eq (mt_eqC_kC kk) X 0 e4, m5, m6, m7⟩⟩, ?_, ?_⟩
      · have := mi_agL (mi_ag_of (S := [(85, 0)]) (o := 0) (Or.inl rfl) (by decide) q1) (r := 85) (f := 0) (by simp) 0 (Or.inr rfl)
        rw [this, ← b2, ← hlen]
        exact mi_w9 _ _ _ _
      · have := mi_agI (mi_ag_of (S := [(1, 1)]) (o := 0) (Or.inl rfl) (by decide) q1) (r := 1) (f := 1) (by simp) 1 (Or.inr rfl)
        rw [this]
        exact mi_w8 T 1 1 0
      · rw [e] at hlen; simp at hlen
      · rw [(kk 8 _ (by omega) (by omega)).1]; exact e5
      · rw [q2]
        show T.2.2 + 0 ≤ _
        rw [g2, f2]
        exact Nat.le_succ _
      · exact mi_ag_tr (mi_ag_sub (by decide) agt) (mi_ag_of (o := 0) (Or.inl rfl) (by decide) q1)
end
