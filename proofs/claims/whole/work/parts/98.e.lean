/-! TREES in the rows of the class, and their values worked out there -/
def mt_ck (k : Nat) : Nat := if k = 1 then 0 else if k = 2 then 1 else if k = 3 then 2 else if k = 4 then 3 else if k = 8 then 4 else if k = 9 then 5 else if k = 10 then 6 else if k = 11 then 7 else if k = 12 then 8 else if k = 7 then 9 else if k = 5 then 10 else 11
def mt_rel (a : Nat) : Nat := if a = 8 then 61 else if a = 9 then 8509 else if a = 10 then 62 else if a = 11 then 15421 else if a = 12 then 15933 else 60
def mt_cs (k a : Nat) : Nat := if k = 3 ∨ k = 9 then mq_cp a else if k = 4 then a else if k = 8 then mt_rel a else if k = 10 ∨ k = 11 ∨ k = 12 then mq_ce a else 0
/-- is there an access of this protocol? -/
def mt_ac (p : Nat) : mt_T → Bool
  | .tag k (.tag a (.tag _ (.tag _ (.append l r)))) => (Nat.beq k 3 && Nat.beq a p) || mt_ac p l || mt_ac p r
  | _ => false
theorem mt_ac_nd (p k a n m : Nat) (l r : mt_T) : mt_ac p (mt_nd k a n m l r) = ((Nat.beq k 3 && Nat.beq a p) || mt_ac p l || mt_ac p r) := by rw [mt_nd, mt_ac]
theorem mt_ac_0 (p : Nat) : mt_ac p mt_0 = false := rfl
/-- the protocols that are asked for, as bits -/
def mt_pm (l r : mt_T) : Nat := (if mt_ac 1 l || mt_ac 1 r then 1 else 0) + (if mt_ac 2 l || mt_ac 2 r then 2 else 0) + (if mt_ac 3 l || mt_ac 3 r then 4 else 0)
/-- one node of the class's rows -/
def mt_nC (o : Nat) (t : mw_T) (b k a n m : Nat) (l r : mt_T) : Prop :=
  t.1 (9 + o) (b + mt_sz l + mt_sz r) = nI (mt_ck k) ∧ t.1 (10 + o) (b + mt_sz l + mt_sz r) = nI (mt_cs k a) ∧
  (3 ≤ k → k ≤ 8 → t.1 (11 + o) (b + mt_sz l + mt_sz r) = nI (b + mt_sz l - 1)) ∧
  (k = 4 ∨ k = 5 ∨ k = 6 ∨ k = 8 → t.1 (12 + o) (b + mt_sz l + mt_sz r) = nI (b + mt_sz l + mt_sz r - 1)) ∧
  (k = 8 → t.1 (13 + o) (b + mt_sz l + mt_sz r) = nI b ∧ t.2.1 (14 + o) (b + mt_sz l + mt_sz r) = nL (mt_pm l r)) ∧
  (k = 1 ∨ k = 3 ∨ 10 ≤ k → t.2.1 (14 + o) (b + mt_sz l + mt_sz r) = nL n) ∧
  (10 ≤ k → t.2.1 (15 + o) (b + mt_sz l + mt_sz r) = mq_nm k m)
def mt_RC (o : Nat) (t : mw_T) : Nat → mt_T → Prop
  | b, .tag k (.tag a (.tag n (.tag m (.append l r)))) => mt_nC o t b k a n m l r ∧ mt_RC o t b l ∧ mt_RC o t (b + mt_sz l) r
  | _, _ => True
theorem mt_RC_nd (o : Nat) (t : mw_T) (b k a n m : Nat) (l r : mt_T) : mt_RC o t b (mt_nd k a n m l r) = (mt_nC o t b k a n m l r ∧ mt_RC o t b l ∧ mt_RC o t (b + mt_sz l) r) := by rw [mt_nd, mt_RC]
/-- only the tree's rows matter -/
def mt_eqC (o : Nat) (t T : mw_T) : Prop := ∀ q, 9 ≤ q → q ≤ 15 → (∀ i, T.1 (q + o) i = t.1 (q + o) i) ∧ (∀ i, T.2.1 (q + o) i = t.2.1 (q + o) i)
theorem mt_nC_eq {o : Nat} {t T : mw_T} (h : mt_eqC o t T) {b k a n m : Nat} {l r : mt_T} (hp : mt_nC o t b k a n m l r) : mt_nC o T b k a n m l r := by
  obtain ⟨p1, p2, p3, p4, p5, p6, p7⟩ := hp
  refine ⟨?_, ?_, fun a b => ?_, fun a => ?_, fun a => ⟨?_, ?_⟩, fun a => ?_, fun a => ?_⟩
  · rw [(h 9 (by omega) (by omega)).1]; exact p1
  · rw [(h 10 (by omega) (by omega)).1]; exact p2
  · rw [(h 11 (by omega) (by omega)).1]; exact p3 a b
  · rw [(h 12 (by omega) (by omega)).1]; exact p4 a
  · rw [(h 13 (by omega) (by omega)).1]; exact (p5 a).1
  · rw [(h 14 (by omega) (by omega)).2]; exact (p5 a).2
  · rw [(h 14 (by omega) (by omega)).2]; exact p6 a
  · rw [(h 15 (by omega) (by omega)).2]; exact p7 a
theorem mt_RC_eq {o : Nat} {t T : mw_T} (h : mt_eqC o t T) : ∀ (X : mt_T) (b : Nat), mt_RC o t b X → mt_RC o T b X := by
  intro X
  induction X using mt_sz.induct with
  | case1 k a n m l r ih1 ih2 =>
    intro b hp
    rw [mt_RC] at hp ⊢
    exact ⟨mt_nC_eq h hp.1, ih1 b hp.2.1, ih2 _ hp.2.2⟩
  | case2 X hX =>
    intro b _
    rw [mt_RC]
    · trivial
    · exact hX
section
variable {N R : Nat} {pk : Nat → Nat} {n : Nat}
theorem mq_access (hN : 6 ≤ N) {t : mw_T} (h : mi_PktW pk n t) (o a m : Nat) (ha : a ≤ 3) (hm : m ≤ 4) (hh : a = 2 ∨ a = 3 → 15 ≤ n) {v : Int64} : mf_Judge_access N R o (nI (mq_cp a)) v (nI m) t = some (.inl (mi_re (mi_fld pk n (mi_n ((v + nL (mq_base pk a)) &&& (4294967295 : Int64))) m)), t) := by
  have b38 : ∀ w : Int64, mf_Judge_access_b38 N R o v (nI m) w t = some (.inl (mi_re (mi_fld pk n (mi_n ((v + w) &&& (4294967295 : Int64))) m)), t) := by
    intro w
    obtain ⟨g1, g2⟩ := mi_n_u (mi_u_mask (w + v))
    rw [mf_Judge_access_b38]
    conv => lhs; rw [g1]
    rw [mi_cfield N R hN h _ m hm g2, mi_b, Int64.add_comm]
  have b23 : 15 ≤ n → ∀ w : Int64, mf_Judge_access_b23 N R o v (nI m) w t = some (.inl (mi_re (mi_fld pk n (mi_n ((v + (w + nL (mq_hd pk))) &&& (4294967295 : Int64))) m)), t) := by
    intro hn w
    rw [mf_Judge_access_b23, show (14 : Int64) = nL 14 from rfl, mi_chead N R hN h 14 (by omega), mi_b, mq_head h hn]
    exact b38 _
  have : a = 0 ∨ a = 1 ∨ a = 2 ∨ a = 3 := by omega
  rcases this with rfl | rfl | rfl | rfl
  · rw [mf_Judge_access, if_pos (show nI (mq_cp 0) = (0 : Int32) from rfl), mf_Judge_access_b11, if_neg (by decide), if_neg (by decide), b38]; rfl
  · rw [mf_Judge_access, if_neg (show ¬ nI (mq_cp 1) = (0 : Int32) by decide), mf_Judge_access_b11, if_neg (by decide), if_neg (by decide), b38]; rfl
  · rw [mf_Judge_access, if_neg (show ¬ nI (mq_cp 2) = (0 : Int32) by decide), mf_Judge_access_b11, if_pos (show nI (mq_cp 2) = (2 : Int32) from rfl), b23 (hh (by omega)), show (14 : Int64) = nL 14 from rfl, mi_addL]; rfl
  · rw [mf_Judge_access, if_neg (show ¬ nI (mq_cp 3) = (0 : Int32) by decide), mf_Judge_access_b11, if_neg (by decide), if_pos (show nI (mq_cp 3) = (4 : Int32) from rfl), b23 (hh (by omega)), show (14 : Int64) = nL 14 from rfl, mi_addL]; rfl
/-- .. how it goes on -/
def mq_ov (N R o node i g : Nat) (t : mw_T) : Option Int64 → mw_X Int32
  | none => some (.inl (-1), mw_wl t (27 + o) i (-1))
  | some v => mf_Judge_relation_l32 N R o g (nI node) (nI (i + 1)) (mw_wl t (27 + o) i v)
/-- one turn of the class's loop over values -/
theorem mq_crel (o node i g : Nat) {t : mw_T} {r : Option Int64} (hi : i < node) (hn : node < 160) (hu : ∀ v, r = some v → mi_u v) (hv : mf_Judge_value N R o (nI i) t = some (.inl (mi_re r), t)) : mf_Judge_relation_l32 N R o (g + 1) (nI node) (nI i) t = mq_ov N R o node i g t r := by
  have hin : mj_in (nI i) 160 = true := mi_inT (by omega) (by omega)
  rw [me_Judge_relation_l32, mf_Judge_relation_l32B, if_pos (mi_ltT (by omega) hi), hv, mi_b, if_pos hin, if_pos hin, mi_tn (by omega), mi_wl, if_pos rfl, if_pos rfl, mi_l1, mi_add]
  cases r with
  | none => rfl
  | some v => rw [if_neg (show ¬ mi_re (some v) = -1 from mi_u_ne (hu v rfl))]; rfl
/-- the class's loop over the values of a tree -/
theorem mq_cval (hN : 6 ≤ N) (o node : Nat) (hnode : node < 160) : ∀ (X : mt_T), mt_V X → ∀ (b g : Nat) (t : mw_T), mi_PktW pk n t → mt_RC o t b X → (mt_ac 2 X = true ∨ mt_ac 3 X = true → 15 ≤ n) → b + mt_sz X ≤ node →
    match mt_vS pk n X with
    | none => ∃ T, mf_Judge_relation_l32 N R o (mt_sz X + g) (nI node) (nI b) t = some (.inl (-1), T)
    | some v => ∃ T, mf_Judge_relation_l32 N R o (mt_sz X + g) (nI node) (nI b) t = mf_Judge_relation_l32 N R o g (nI node) (nI (b + mt_sz X)) T ∧ T.1 = t.1 ∧ (∀ q i, q ≠ 27 + o → T.2.1 q i = t.2.1 q i) ∧ (∀ i, i < b → T.2.1 (27 + o) i = t.2.1 (27 + o) i) ∧ T.2.1 (27 + o) (b + mt_sz X - 1) = v := by
  have keep : ∀ {t T : mw_T}, T.1 = t.1 → (∀ q i, q ≠ 27 + o → T.2.1 q i = t.2.1 q i) → mi_PktW pk n t → mi_PktW pk n T := by
    intro t T h1 h2 h
    obtain ⟨q1, q2, q3, q4⟩ := h
    exact ⟨q1, by rw [h1]; exact q2, by rw [h1]; exact q3, fun j hj => by rw [h1]; exact q4 j hj⟩
  have keepR : ∀ {t T : mw_T}, T.1 = t.1 → (∀ q i, q ≠ 27 + o → T.2.1 q i = t.2.1 q i) → mt_eqC o t T := by
    intro t T h1 h2 q g1 g2
    exact ⟨fun i => by rw [h1], fun i => h2 _ _ (by omega)⟩
  intro X hX
  refine mt_Vind (P := fun X => ∀ (b g : Nat) (t : mw_T), mi_PktW pk n t → mt_RC o t b X → (mt_ac 2 X = true ∨ mt_ac 3 X = true → 15 ≤ n) → b + mt_sz X ≤ node →
    match mt_vS pk n X with
    | none => ∃ T, mf_Judge_relation_l32 N R o (mt_sz X + g) (nI node) (nI b) t = some (.inl (-1), T)
    | some v => ∃ T, mf_Judge_relation_l32 N R o (mt_sz X + g) (nI node) (nI b) t = mf_Judge_relation_l32 N R o g (nI node) (nI (b + mt_sz X)) T ∧ T.1 = t.1 ∧ (∀ q i, q ≠ 27 + o → T.2.1 q i = t.2.1 q i) ∧ (∀ i, i < b → T.2.1 (27 + o) i = t.2.1 (27 + o) i) ∧ T.2.1 (27 + o) (b + mt_sz X - 1) = v) ?_ ?_ ?_ ?_ X hX
  · -- a number
    intro a m c hm b g t h hR hac hb
    rw [mt_RC_nd, mt_nC] at hR
    rw [mt_sz_nd, mt_sz_0] at hb ⊢
    simp only [mt_sz_0, Nat.add_zero] at hR
    obtain ⟨⟨p1, p2, p3, p4, p5, p6, p7⟩, -, -⟩ := hR
    have hin : mj_in (nI b) 160 = true := mi_inT (by omega) (by omega)
    have hv : mf_Judge_value N R o (nI b) t = some (.inl (mi_re (some (nL m))), t) := by
      rw [mf_Judge_value, if_pos hin, mi_tn (by omega), p1, if_pos (show nI (mt_ck 1) = (0 : Int32) from rfl), if_pos hin, p6 (by simp)]; rfl
    rw [mt_vS_1, show 0 + 0 + 1 + g = g + 1 by omega, mq_crel o node b g (by omega) hnode (fun v e => by cases e; exact mi_u_nL hm) hv, mq_ov]
    exact ⟨_, rfl, rfl, fun q i hq => by rw [mi_wl, if_neg hq], fun i hi => by rw [mi_wl, if_pos rfl, if_neg (by omega)], by rw [mi_wl, if_pos rfl, if_pos (by omega)]⟩
  · intro a m c b g t h hR hac hb
    rw [mt_RC_nd, mt_nC] at hR
    rw [mt_sz_nd, mt_sz_0] at hb ⊢
    simp only [mt_sz_0, Nat.add_zero] at hR
    obtain ⟨⟨p1, p2, p3, p4, p5, p6, p7⟩, -, -⟩ := hR
    have hl := h.1
    have hin : mj_in (nI b) 160 = true := mi_inT (by omega) (by omega)
    have hv : mf_Judge_value N R o (nI b) t = some (.inl (mi_re (some (nL n))), t) := by
      rw [mf_Judge_value, if_pos hin, mi_tn (by omega), p1, if_neg (show ¬ nI (mt_ck 2) = (0 : Int32) by decide), if_pos (show nI (mt_ck 2) = (1 : Int32) from rfl), mf_Packet_length, mi_b, h.2.1, mi_IL (by omega)]; rfl
    rw [mt_vS_2, show 0 + 0 + 1 + g = g + 1 by omega, mq_crel o node b g (by omega) hnode (fun v e => by cases e; exact mi_u_nL (by omega)) hv, mq_ov]
    exact ⟨_, rfl, rfl, fun q i hq => by rw [mi_wl, if_neg hq], fun i hi => by rw [mi_wl, if_pos rfl, if_neg (by omega)], by rw [mi_wl, if_pos rfl, if_pos (by omega)]⟩
  · intro a m c l ha hm hl ih b g t h hR hac hb
    rw [mt_RC_nd, mt_nC] at hR
    rw [mt_sz_nd, mt_sz_0] at hb ⊢
    simp only [mt_sz_0, Nat.add_zero] at hR
    obtain ⟨⟨p1, p2, p3, p4, p5, p6, p7⟩, hRl, -⟩ := hR
    have hpos := mt_V_pos hl
    rw [mt_ac_nd, mt_ac_nd] at hac
    have hacl : mt_ac 2 l = true ∨ mt_ac 3 l = true → 15 ≤ n := fun hh => hac (by rcases hh with hh | hh <;> simp [hh])
    have haca : a = 2 ∨ a = 3 → 15 ≤ n := fun hh => hac (by rcases hh with rfl | rfl <;> simp)
    have IH := ih b (g + 1) t h hRl hacl (by omega)
    rw [mt_vS_3, show mt_sz l + 0 + 1 + g = mt_sz l + (g + 1) by omega]
    cases hvl : mt_vS pk n l with
    | none => rw [hvl] at IH; exact IH
    | some v =>
      rw [hvl] at IH
      obtain ⟨T, e1, e2, e3, e4, e5⟩ := IH
      simp only
      rw [e1]
      have hin : mj_in (nI (b + mt_sz l)) 160 = true := mi_inT (by omega) (by omega)
      have hin2 : mj_in (nI (b + mt_sz l - 1)) 160 = true := mi_inT (by omega) (by omega)
      have hv : mf_Judge_value N R o (nI (b + mt_sz l)) T = some (.inl (mi_re (mi_fld pk n (mi_n ((v + nL (mq_base pk a)) &&& (4294967295 : Int64))) m)), T) := by
        rw [mf_Judge_value, if_pos hin, mi_tn (by omega), e2, p1, if_neg (show ¬ nI (mt_ck 3) = (0 : Int32) by decide), if_neg (show ¬ nI (mt_ck 3) = (1 : Int32) by decide), if_pos (show nI (mt_ck 3) = (2 : Int32) from rfl), if_pos hin, if_pos hin, p3 (by omega) (by omega), if_pos hin2, if_pos hin, mi_tn (by omega), p2, e5, e3 _ _ (by omega), p6 (by simp), mi_LI, show mt_cs 3 a = mq_cp a from rfl, mq_access hN (keep e2 e3 h) o a m ha (by omega) haca, mi_b]
      rw [mq_crel o node (b + mt_sz l) g (by omega) hnode (fun w e => mi_fld_u h (by omega) e) hv]
      cases hf : mi_fld pk n (mi_n ((v + nL (mq_base pk a)) &&& (4294967295 : Int64))) m with
      | none => exact ⟨_, rfl⟩
      | some w =>
        refine ⟨_, rfl, e2, fun q i hq => ?_, fun i hi => ?_, ?_⟩
        · rw [mi_wl, if_neg hq]; exact e3 q i hq
        · rw [mi_wl, if_pos rfl, if_neg (by omega)]; exact e4 i hi
        · rw [mi_wl, if_pos rfl, if_pos (by omega)]
  · intro a m c l r ha hl hr ih1 ih2 b g t h hR hac hb
    rw [mt_RC_nd, mt_nC] at hR
    rw [mt_sz_nd] at hb ⊢
    obtain ⟨⟨p1, p2, p3, p4, p5, p6, p7⟩, hRl, hRr⟩ := hR
    have hpos := mt_V_pos hl
    have hpos2 := mt_V_pos hr
    rw [mt_ac_nd, mt_ac_nd] at hac
    have hacl : mt_ac 2 l = true ∨ mt_ac 3 l = true → 15 ≤ n := fun hh => hac (by rcases hh with hh | hh <;> simp [hh])
    have hacr : mt_ac 2 r = true ∨ mt_ac 3 r = true → 15 ≤ n := fun hh => hac (by rcases hh with hh | hh <;> simp [hh])
    have IH := ih1 b (mt_sz r + (g + 1)) t h hRl hacl (by omega)
    rw [mt_vS_4, show mt_sz l + mt_sz r + 1 + g = mt_sz l + (mt_sz r + (g + 1)) by omega]
    cases hvl : mt_vS pk n l with
    | none => rw [hvl] at IH; exact IH
    | some v =>
      rw [hvl] at IH
      obtain ⟨T, e1, e2, e3, e4, e5⟩ := IH
      simp only
      rw [e1]
      have IH2 := ih2 (b + mt_sz l) (g + 1) T (keep e2 e3 h) (mt_RC_eq (keepR e2 e3) _ _ hRr) hacr (by omega)
      cases hvr : mt_vS pk n r with
      | none => rw [hvr] at IH2; exact IH2
      | some w =>
        rw [hvr] at IH2
        obtain ⟨T2, f1, f2, f3, f4, f5⟩ := IH2
        simp only
        rw [f1]
        have hin : mj_in (nI (b + mt_sz l + mt_sz r)) 160 = true := mi_inT (by omega) (by omega)
        have hin2 : mj_in (nI (b + mt_sz l - 1)) 160 = true := mi_inT (by omega) (by omega)
        have hin3 : mj_in (nI (b + mt_sz l + mt_sz r - 1)) 160 = true := mi_inT (by omega) (by omega)
        have hck : nI (mt_ck 4) = (3 : Int32) := rfl
        have hv : mf_Judge_value N R o (nI (b + mt_sz l + mt_sz r)) T2 = some (.inl (mi_re (mi_cmb (nI a) v w)), T2) := by
          rw [mf_Judge_value, if_pos hin, mi_tn (by omega), f2, e2, p1, if_neg (show ¬ nI (mt_ck 4) = (0 : Int32) by decide), if_neg (show ¬ nI (mt_ck 4) = (1 : Int32) by decide), if_neg (show ¬ nI (mt_ck 4) = (2 : Int32) by decide), if_pos hin, if_pos hin, p3 (by omega) (by omega), if_pos hin2, if_pos hin, p4 (by omega), if_pos hin3, mi_tn (by omega), mi_tn (by omega), p2, f4 _ (by omega), e5, f5, mi_combine, mi_bs]
          rfl
        have hul := mt_vS_u h hl hvl
        have hur := mt_vS_u h hr hvr
        rw [mq_crel o node (b + mt_sz l + mt_sz r) g (by omega) hnode (fun x e => mi_cmb_u hul hur e) hv]
        cases hf : mi_cmb (nI a) v w with
        | none => exact ⟨_, rfl⟩
        | some x =>
          refine ⟨mw_wl T2 (27 + o) (b + mt_sz l + mt_sz r) x, by rw [mq_ov, show b + mt_sz l + mt_sz r + 1 = b + (mt_sz l + mt_sz r + 1) by omega], f2.trans e2, fun q i hq => ?_, fun i hi => ?_, ?_⟩
          · rw [mi_wl, if_neg hq]; exact (f3 q i hq).trans (e3 q i hq)
          · rw [mi_wl, if_pos rfl, if_neg (by omega)]; exact (f4 i (by omega)).trans (e4 i hi)
          · rw [mi_wl, if_pos rfl, if_pos (by omega)]
end
