/-! THE CLASS's PARSER: values -/
section
variable {N R o : Nat}
theorem mk_leaf {t : mw_T} {M L : mk_L} {d b : Nat} (hs : mk_ST o t M L d b) (hb : b < 160) (k a n m : Nat) (w : Int64) (hk : k = 1 ∨ k = 2 ∨ 9 ≤ k ∧ k ≤ 12) (hw : 10 ≤ k → w = mq_nm k m) (x3 : Int64) (h3 : k ≠ 2 → k ≠ 9 → x3 = nL n) : ∃ v T, mf_Tree_addLeaf N R o (nI (mt_ck k)) (nI (mt_cs k a)) x3 w t = some (.inl v, T) ∧ mk_W o t M d b (mt_nd k a n m mt_0 mt_0, L) v T := by
  have hin : mj_in (nI b) 160 = true := mi_inT (by omega) hb
  have e : mf_Tree_addLeaf N R o (nI (mt_ck k)) (nI (mt_cs k a)) x3 w t = some (.inl (nI b), mw_wl (mw_wl (mk_aj o t b (nI (mt_ck k)) (nI (mt_cs k a)) 0 0) (14 + o) b x3) (15 + o) b w) := by
    rw [mf_Tree_addLeaf, mk_addJoint hs.2.2.2 hb, mi_b, if_pos hin, if_pos hin, mi_tn (by omega)]
  refine ⟨_, _, e, mk_W_nd (u := t) hs (mk_kp_rf _ _ _) (by rw [mt_RC]; trivial; simp) (by rw [mt_RC]; trivial; simp) ?_ ?_⟩
  · obtain ⟨g1, g2, g3⟩ := mk_aj_nx (o := o) t b (nI (mt_ck k)) (nI (mt_cs k a)) 0 0
    refine ⟨g1, fun q h1 h2 i => ⟨(g2 q h1 h2 i).1, ?_⟩, fun q h1 h2 i hi => ⟨(g3 q h1 h2 i hi).1, ?_⟩⟩
    · rw [mi_wl, if_neg (by omega), mi_wl, if_neg (by omega)]; exact (g2 q h1 h2 i).2
    · simp only [mt_sz_0, Nat.add_zero] at hi
      rw [mi_wl, mi_wl, if_neg (show ¬ i = b by omega), if_neg (show ¬ i = b by omega), ite_self, ite_self]; rfl
  · simp only [mt_nC, mt_sz_0, Nat.add_zero]
    refine ⟨?_, ?_, fun h h' => by omega, fun h => by omega, fun h => by omega, fun h => ?_, fun h => ?_⟩
    · rw [mi_wl1, mi_wl1, mk_aj_i, if_neg (by omega), if_neg (by omega), if_neg (by omega), if_neg (by omega), if_pos ⟨rfl, rfl⟩]
    · rw [mi_wl1, mi_wl1, mk_aj_i, if_neg (by omega), if_neg (by omega), if_neg (by omega), if_pos ⟨rfl, rfl⟩]
    · rw [mi_wl, if_neg (by omega), mi_wl, if_pos rfl, if_pos rfl, h3 (by omega) (by omega)]
    · rw [mi_wl, if_pos rfl, if_pos rfl, hw h]
theorem mk_protocolOf (k : Nat) (hk : k < 100000) (t : mw_T) : mf_Parser_protocolOf N R (nI k) t = some (.inl (if mk_pr k = 9 then -1 else nI (mq_cp (mk_pr k))), t) := by
  rw [mf_Parser_protocolOf]
  by_cases h3 : k = 3
  · subst h3; rfl
  by_cases h4 : k = 4
  · subst h4; rfl
  by_cases h5 : k = 5
  · subst h5; rfl
  by_cases h6 : k = 6
  · subst h6; rfl
  rw [if_neg (show ¬ nI k = (3 : Int32) from mi_neT (b := 3) (by omega) (by omega) h3), if_neg (show ¬ nI k = (4 : Int32) from mi_neT (b := 4) (by omega) (by omega) h4), if_neg (show ¬ nI k = (5 : Int32) from mi_neT (b := 5) (by omega) (by omega) h5), if_neg (show ¬ nI k = (6 : Int32) from mi_neT (b := 6) (by omega) (by omega) h6), if_pos (mk_pr_eq9 (by omega))]
theorem mk_strength (k : Nat) (hk : k < 100000) (t : mw_T) : mf_Parser_strength N R (nI k) t = some (.inl (nI (mk_str k)), t) := by
  rw [mf_Parser_strength]
  have key : ∀ c : Nat, c < 100000 → (nI k = nI c ↔ k = c) := fun c hc => by rw [mi_eq (by omega) (by omega)]
  have e38 : (nI k = (38 : Int32)) ↔ k = 38 := key 38 (by omega)
  have e42 : (nI k = (42 : Int32)) ↔ k = 42 := key 42 (by omega)
  have e43 : (nI k = (43 : Int32)) ↔ k = 43 := key 43 (by omega)
  have e45 : (nI k = (45 : Int32)) ↔ k = 45 := key 45 (by omega)
  have e47 : (nI k = (47 : Int32)) ↔ k = 47 := key 47 (by omega)
  have e124 : (nI k = (124 : Int32)) ↔ k = 124 := key 124 (by omega)
  have e4 : (nI k = (15420 : Int32)) ↔ k = 15420 := key 15420 (by omega)
  have e5 : (nI k = (15934 : Int32)) ↔ k = 15934 := key 15934 (by omega)
  simp only [e38, e42, e43, e45, e47, e124, e4, e5]
  unfold mk_str
  by_cases h1 : k = 42
  · subst h1; rfl
  by_cases h2 : k = 47
  · subst h2; rfl
  by_cases h3 : k = 43
  · subst h3; rfl
  by_cases h4 : k = 45
  · subst h4; rfl
  by_cases h5 : k = 15420
  · subst h5; rfl
  by_cases h6 : k = 15934
  · subst h6; rfl
  by_cases h7 : k = 38
  · subst h7; rfl
  by_cases h8 : k = 124
  · subst h8; rfl
  simp only [h1, h2, h3, h4, h5, h6, h7, h8, if_false, or_self]
  rfl
theorem mk_signNumber (k : Nat) (hk : k < 100000) (t : mw_T) : mf_Parser_signNumber N R (nI k) t = some (.inl (nI (mk_sg k)), t) := by
  rw [mf_Parser_signNumber]
  have key : ∀ c : Nat, c < 100000 → (nI k = nI c ↔ k = c) := fun c hc => by rw [mi_eq (by omega) (by omega)]
  have e38 : (nI k = (38 : Int32)) ↔ k = 38 := key 38 (by omega)
  have e42 : (nI k = (42 : Int32)) ↔ k = 42 := key 42 (by omega)
  have e43 : (nI k = (43 : Int32)) ↔ k = 43 := key 43 (by omega)
  have e45 : (nI k = (45 : Int32)) ↔ k = 45 := key 45 (by omega)
  have e47 : (nI k = (47 : Int32)) ↔ k = 47 := key 47 (by omega)
  have e4 : (nI k = (15420 : Int32)) ↔ k = 15420 := key 15420 (by omega)
  have e5 : (nI k = (15934 : Int32)) ↔ k = 15934 := key 15934 (by omega)
  simp only [e38, e42, e43, e45, e47, e4, e5]
  unfold mk_sg
  by_cases h1 : k = 42
  · subst h1; rfl
  by_cases h2 : k = 47
  · subst h2; rfl
  by_cases h3 : k = 43
  · subst h3; rfl
  by_cases h4 : k = 45
  · subst h4; rfl
  by_cases h5 : k = 15420
  · subst h5; rfl
  by_cases h6 : k = 15934
  · subst h6; rfl
  by_cases h7 : k = 38
  · subst h7; rfl
  simp only [h1, h2, h3, h4, h5, h6, h7, if_false]
  rfl
/-- what a call of value does -/
def mk_SV (N R o : Nat) (M : mk_L) (f : Nat) : Prop := ∀ (w d b : Nat) (L : mk_L) (t : mw_T), 1 ≤ w → w ≤ 6 → d ≤ 8 → 6 * (8 - d) + (6 - w) + 1 ≤ f → b + L.length ≤ 160 → mk_ST o t M L d b → mk_rs (mf_Parser_valueR N R o f (nI w) t) (mk_val f w d L) (mk_W o t M d b)
theorem mk_access {M : mk_L} {f : Nat} (hM : mk_wT M) (ih : mk_SV N R o M f) {d b : Nat} {L : mk_L} {t : mw_T} (hd : d ≤ 8) (hf : 6 * (8 - d) ≤ f) (hb : b + L.length ≤ 160) (hs : mk_ST o t M L d b) :
    mk_rs (mf_Parser_access N R (mf_Parser_valueR N R o f) o t) (if mk_pr (mk_hd L) = 9 then none else (mk_ex 91 L.tail).bind fun L1 => if d = 8 then none else (mk_val f 1 (d + 1) L1).bind fun X => (mk_size X.2).bind fun b => some (mt_nd 3 (mk_pr (mk_hd L)) b.1 0 X.1 mt_0, b.2)) (mk_W o t M d b) := by
  obtain ⟨_, ⟨p, h4, h5⟩, _⟩ := id hs
  obtain ⟨hlt, _⟩ := mk_hd_lt hM h4
  rw [mf_Parser_access, mk_kind hs, mi_b, mk_protocolOf _ hlt, mi_bs]
  by_cases hp : mk_pr (mk_hd L) = 9
  · rw [if_pos hp, if_pos hp, if_pos (by decide)]
    exact mk_rs_no rfl
  · rw [if_neg hp, if_neg hp]
    have hple := mk_pr_le hp
    have hcp : mq_cp (mk_pr (mk_hd L)) ≤ 4 := by unfold mq_cp; split <;> omega
    have h0 : mk_hd L ≠ 0 := by have := mk_pr9 _ hp; omega
    have hlen := mk_len h0
    rw [if_neg (mi_lt0 _ (by omega))]
    obtain ⟨hQ1, hK1⟩ := mk_ST_adv hs h0
    refine mk_rs_b (mk_expect hM hQ1 91 (by omega) (by omega)) (fun L1 _ T1 e1 hT1 => ?_)
    have hl1 := mk_ex_len (by omega) e1
    by_cases hd8 : d = 8
    · rw [if_pos hd8, (mk_enter hT1.1 hd).1 hd8, mi_bx]
      exact mk_rs_no rfl
    · rw [if_neg hd8]
      obtain ⟨T2, e2, hT2⟩ := (mk_enter (N := N) (R := R) hT1.1 hd).2 hd8
      rw [e2, mi_b]
      refine mk_rs_b (ih 1 (d + 1) b L1 T2 (by omega) (by omega) (by omega) (by omega) (by omega) hT2.1) (fun X v T3 e3 hT3 => ?_)
      obtain ⟨w1, w2, w3, w4⟩ := hT3
      obtain ⟨⟨v1, v2, v3⟩, _⟩ := mk_val_ok _ _ _ _ _ (by omega) e3
      have hpos := mt_V_pos v1
      have hK : mk_kp o b t T3 := mk_kp_tr hK1 (mk_kp_tr hT1.2 (mk_kp_tr hT2.2 w4 (Nat.le_refl _)) (Nat.le_refl _)) (Nat.le_refl _)
      -- behind the size
      have fin : ∀ (c : Nat) (LL : mk_L) (U : mw_T), c ≤ 4 → mk_ST o U M LL (d + 1) (b + mt_sz X.1) → mk_kp o (b + mt_sz X.1) T3 U → LL.length ≤ X.2.length → mk_rs (mf_Parser_access_b73 N R (mf_Parser_valueR N R o f) o (nI (mq_cp (mk_pr (mk_hd L)))) v (nL c) U) (if c = 0 ∨ c = 3 then none else (mk_ex 93 LL).bind fun L1 => some (mt_nd 3 (mk_pr (mk_hd L)) c 0 X.1 mt_0, L1)) (mk_W o t M d b) := by
        intro c LL U hc hU hKU hLL
        rw [mf_Parser_access_b73]
        by_cases c0 : c = 0
        · rw [if_pos (Or.inl c0), if_pos (by rw [c0]; rfl)]
          exact mk_rs_no rfl
        by_cases c3 : c = 3
        · rw [if_pos (Or.inr c3), if_neg (show ¬ nL c = (0 : Int64) from by rw [show (0 : Int64) = nL 0 from rfl, mi_eqL (by omega) (by omega)]; exact c0), if_pos (by rw [c3]; rfl)]
          exact mk_rs_no rfl
        rw [if_neg (show ¬ (c = 0 ∨ c = 3) by omega), if_neg (show ¬ nL c = (0 : Int64) from by rw [show (0 : Int64) = nL 0 from rfl, mi_eqL (by omega) (by omega)]; exact c0), if_neg (show ¬ nL c = (3 : Int64) from by rw [show (3 : Int64) = nL 3 from rfl, mi_eqL (by omega) (by omega)]; exact c3)]
        refine mk_rs_b (mk_leave hM hU 93 (by omega) (by omega)) (fun LL1 _ U1 e4 hU1 => ?_)
        have hl4 := mk_ex_len (by omega) e4
        have hbb : b + mt_sz X.1 < 160 := by omega
        have hin : mj_in (nI (b + mt_sz X.1)) 160 = true := mi_inT (by omega) hbb
        rw [mf_Tree_addAccess, mk_addJoint hU1.1.2.2.2 hbb, mi_b, if_pos hin, mi_tn (by omega), mi_b]
        refine mk_rs_ok rfl (mk_W_nd (u := U1) (l := X.1) (r := mt_0) (by rw [mt_sz_0, Nat.add_zero]; exact hU1.1) (mk_kp_tr hK (mk_kp_tr hKU hU1.2 (Nat.le_refl _)) (by omega)) (mt_RC_kp (mk_kp_tr hKU hU1.2 (Nat.le_refl _)) _ _ (by omega) w3) (by rw [mt_RC]; trivial; simp) ?_ ?_)
        · obtain ⟨g1, g2, g3⟩ := mk_aj_nx (o := o) U1 (b + mt_sz X.1) (2 : Int32) (nI (mq_cp (mk_pr (mk_hd L)))) v 0
          refine ⟨g1, fun q h1 h2 i => ⟨(g2 q h1 h2 i).1, ?_⟩, fun q h1 h2 i hi => ⟨(g3 q h1 h2 i hi).1, ?_⟩⟩
          · rw [mi_wl, if_neg (by omega)]; exact (g2 q h1 h2 i).2
          · simp only [mt_sz_0, Nat.add_zero] at hi
            rw [mi_wl, if_neg (show ¬ i = b + mt_sz X.1 by omega), ite_self]; rfl
        · simp only [mt_nC, mt_sz_0, Nat.add_zero]
          refine ⟨?_, ?_, fun _ _ => ?_, fun h => by omega, fun h => by omega, fun h => ?_, fun h => by omega⟩
          · rw [mi_wl1, mk_aj_i, if_neg (by omega), if_neg (by omega), if_neg (by omega), if_neg (by omega), if_pos ⟨rfl, rfl⟩]; rfl
          · rw [mi_wl1, mk_aj_i, if_neg (by omega), if_neg (by omega), if_neg (by omega), if_pos ⟨rfl, rfl⟩, mt_cs, if_pos (Or.inl rfl)]
          · rw [mi_wl1, mk_aj_i, if_neg (by omega), if_neg (by omega), if_pos ⟨rfl, rfl⟩, w1]
          · rw [mi_wl, if_pos rfl, if_pos rfl]
      rw [show (58 : Int32) = nI 58 from rfl, mk_accept hM w2 58 (by omega), mi_b, mk_size]
      by_cases h58 : mk_hd X.2 = 58
      · have hl58 := mk_len (L := X.2) (by omega)
        rw [if_pos h58, if_pos h58, if_pos h58, if_neg (by decide), Option.bind_assoc]
        obtain ⟨hA1, hA2⟩ := mk_ST_adv w2 (by omega)
        refine mk_rs_b (mk_number hM hA1 4 (by omega)) (fun y v' T4 e4 hT4 => ?_)
        obtain ⟨rfl, hT4, hK4⟩ := hT4
        have := mk_num_len e4
        have hf := fin y.1 y.2 T4 (mk_num_val e4) hT4 (mk_kp_tr hA2 hK4 (Nat.le_refl _)) (by omega)
        split
        · rename_i hc
          rw [if_pos hc] at hf
          exact hf
        · rename_i hc
          rw [if_neg hc] at hf
          rw [Option.bind_assoc]
          exact hf
      · rw [if_neg h58, if_neg h58, if_neg h58, if_pos rfl, Option.bind_assoc]
        have hf := fin 1 X.2 T3 (by omega) w2 (mk_kp_rf _ _ _) (Nat.le_refl _)
        rw [if_neg (by omega)] at hf
        exact hf
theorem mk_itemC {M : mk_L} {f : Nat} (hM : mk_wT M) (ih : mk_SV N R o M f) {d b : Nat} {L : mk_L} {t : mw_T} (hd : d ≤ 8) (hf : 6 * (8 - d) ≤ f) (hb : b + L.length ≤ 160) (hs : mk_ST o t M L d b) :
    mk_rs (mf_Parser_item N R (mf_Parser_valueR N R o f) o t) (mk_item (mk_val f) d L) (mk_W o t M d b) := by
  obtain ⟨_, ⟨p, h4, h5⟩, _⟩ := id hs
  obtain ⟨hlt, _⟩ := mk_hd_lt hM h4
  rw [mf_Parser_item, mk_kind hs, mi_b]
  unfold mk_item
  by_cases h1 : mk_hd L = 1
  · have := mk_len (L := L) (by omega)
    rw [if_pos h1, if_pos (by rw [h1]; rfl)]
    refine mk_rs_b (mk_number hM hs 4294967295 (by omega)) (fun y v T e hT => ?_)
    obtain ⟨rfl, hT⟩ := hT
    obtain ⟨v', T', e', hW⟩ := mk_leaf (N := N) (R := R) hT.1 (by omega) 1 0 y.1 0 (0 : Int64) (by omega) (fun h => by omega) (nL y.1) (fun _ _ => rfl)
    rw [show mf_Tree_addLeaf N R o (0 : Int32) (0 : Int32) (nL y.1) (0 : Int64) T = _ from e', mi_b]
    exact mk_rs_ok rfl ⟨hW.1, hW.2.1, hW.2.2.1, mk_kp_tr hT.2 hW.2.2.2 (Nat.le_refl _)⟩
  rw [if_neg h1, if_neg (show ¬ nI (mk_hd L) = (1 : Int32) from mi_neT (b := 1) (by omega) (by omega) h1), show (7 : Int32) = nI 7 from rfl, mk_accept hM hs 7 (by omega), mi_b]
  by_cases h7 : mk_hd L = 7
  · have := mk_len (L := L) (by omega)
    rw [if_pos h7, if_pos h7, if_pos h7, if_neg (by decide)]
    obtain ⟨hA1, hA2⟩ := mk_ST_adv hs (by omega)
    obtain ⟨v', T', e', hW⟩ := mk_leaf (N := N) (R := R) hA1 (by omega) 2 0 0 0 (0 : Int64) (by omega) (fun h => by omega) (0 : Int64) (fun h _ => absurd rfl h)
    rw [show mf_Tree_addLeaf N R o (1 : Int32) (0 : Int32) (0 : Int64) (0 : Int64) (mk_adv o t) = _ from e', mi_b]
    exact mk_rs_ok rfl ⟨hW.1, hW.2.1, hW.2.2.1, mk_kp_tr hA2 hW.2.2.2 (Nat.le_refl _)⟩
  rw [if_neg h7, if_neg h7, if_neg h7, if_pos rfl, show (123 : Int32) = nI 123 from rfl, mk_accept hM hs 123 (by omega), mi_b]
  by_cases h123 : mk_hd L = 123
  · have := mk_len (L := L) (by omega)
    rw [if_pos h123, if_pos h123, if_pos h123, if_neg (by decide)]
    obtain ⟨hA1, hA2⟩ := mk_ST_adv hs (by omega)
    by_cases hd8 : d = 8
    · rw [if_pos hd8, (mk_enter hA1 hd).1 hd8, mi_bx]
      exact mk_rs_no rfl
    · rw [if_neg hd8]
      obtain ⟨T2, e2, hT2⟩ := (mk_enter (N := N) (R := R) hA1 hd).2 hd8
      rw [e2, mi_b]
      refine mk_rs_b (ih 1 (d + 1) b L.tail T2 (by omega) (by omega) (by omega) (by omega) (by omega) hT2.1) (fun X v T3 e3 hT3 => ?_)
      obtain ⟨w1, w2, w3, w4⟩ := hT3
      refine mk_rs_b (mk_leave hM w2 125 (by omega) (by omega)) (fun L1 _ T4 e4 hT4 => mk_rs_ok rfl ⟨w1, hT4.1, mt_RC_kp hT4.2 _ _ (Nat.le_refl _) w3, ?_⟩)
      exact mk_kp_tr hA2 (mk_kp_tr hT2.2 (mk_kp_tr w4 hT4.2 (by omega)) (Nat.le_refl _)) (Nat.le_refl _)
  rw [if_neg h123, if_neg h123, if_neg h123, if_pos rfl]
  have := mk_access hM ih hd hf hb hs
  have idb : ∀ (X : mw_X Int32), mw_b X (fun v6 t6 => (some (.inl v6, t6))) = X := by
    intro X
    rcases X with _ | ⟨v | q, T⟩ <;> rfl
  rw [idb]
  exact this
end
