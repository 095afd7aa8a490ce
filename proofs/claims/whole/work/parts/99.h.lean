/-! THE CLASS's PARSER: values and relations -/
section
variable {N R o : Nat}
/-- a node over two parts, made by addJoint -/
theorem mk_joint {t u : mw_T} {M L : mk_L} {d b k a : Nat} {l r : mt_T} (hk : k = 4 ∨ k = 5 ∨ k = 6) (hs : mk_ST o u M L d (b + mt_sz l + mt_sz r)) (hkp : mk_kp o b t u) (hl : mt_RC o u b l) (hr : mt_RC o u (b + mt_sz l) r) (hb : b + mt_sz l + mt_sz r < 160) : ∃ v T, mf_Tree_addJoint N R o (nI (mt_ck k)) (nI (mt_cs k a)) (nI (b + mt_sz l - 1)) (nI (b + mt_sz l + mt_sz r - 1)) u = some (.inl v, T) ∧ mk_W o t M d b (mt_nd k a 0 0 l r, L) v T := by
  refine ⟨_, _, mk_addJoint hs.2.2.2 hb _ _ _ _, mk_W_nd hs hkp hl hr (mk_aj_nx _ _ _ _ _ _) ?_⟩
  refine ⟨?_, ?_, fun _ _ => ?_, fun _ => ?_, fun h => by omega, fun h => by omega, fun h => by omega⟩
  · rw [mk_aj_i, if_neg (by omega), if_neg (by omega), if_neg (by omega), if_neg (by omega), if_pos ⟨rfl, rfl⟩]
  · rw [mk_aj_i, if_neg (by omega), if_neg (by omega), if_neg (by omega), if_pos ⟨rfl, rfl⟩]
  · rw [mk_aj_i, if_neg (by omega), if_neg (by omega), if_pos ⟨rfl, rfl⟩]
  · rw [mk_aj_i, if_neg (by omega), if_pos ⟨rfl, rfl⟩]
theorem mk_vlC {M : mk_L} {f : Nat} (hM : mk_wT M) (ih : mk_SV N R o M f) {w d b : Nat} {t0 : mw_T} (hw : 1 ≤ w) (hw6 : w ≤ 6) (hd : d ≤ 8) (hf : 6 * (8 - d) + (6 - w) ≤ f) : ∀ (g F i : Nat) (X : mt_T) (L : mk_L) (t : mw_T), mt_V X → L.length < g → L.length < F → i + L.length ≤ 160 → b + mt_sz X + L.length ≤ 160 → mk_ST o t M L d (b + mt_sz X) → mt_RC o t b X → mk_kp o b t0 t →
    mk_rs (mf_Parser_value_l7 N R (mf_Parser_valueR N R o f) o F (nI w) (nI (b + mt_sz X - 1)) (nI i) t) (mk_vl (mk_val f) w d g X L) (mk_W o t0 M d b) := by
  intro g
  induction g with
  | zero => intro F i X L t _ h; omega
  | succ g ihg =>
    intro F i X L t hX hg hF hi hb hs hR hkp
    obtain ⟨F, rfl⟩ : ∃ k, F = k + 1 := ⟨F - 1, by omega⟩
    obtain ⟨_, ⟨p, h4, h5⟩, _⟩ := id hs
    obtain ⟨hlt, _⟩ := mk_hd_lt hM h4
    have hle := mk_str_le (mk_hd L)
    rw [me_Parser_value_l7, mf_Parser_value_l7B, mk_vl]
    by_cases hi160 : i = 160
    · have hL : L = [] := List.length_eq_zero_iff.mp (by omega)
      subst hL
      rw [if_neg (show ¬ nI i < (160 : Int32) from mi_ltF (b := 160) (by omega) (by omega)), if_pos (show mk_str (mk_hd []) < w from by rw [show mk_str (mk_hd []) = 0 from by decide]; omega)]
      exact mk_rs_ok rfl ⟨rfl, hs, hR, hkp⟩
    rw [if_pos (show nI i < (160 : Int32) from mi_ltT (b := 160) (by omega) (by omega)), mk_kind hs, mi_b, mk_strength _ hlt, mi_bs]
    by_cases hstr : mk_str (mk_hd L) < w
    · rw [if_pos (mi_ltT (by omega) hstr), if_pos hstr]
      exact mk_rs_ok rfl ⟨rfl, hs, hR, hkp⟩
    · have h0 : mk_hd L ≠ 0 := fun e => by rw [e] at hstr; exact hstr (show 0 < w by omega)
      have hlen := mk_len h0
      rw [if_neg (mi_ltF (by omega) (by omega)), if_neg hstr, mk_kind hs, mi_b, mk_strength _ hlt, mi_bs, show (1 : Int32) = nI 1 from rfl, mi_add]
      obtain ⟨hA1, hA2⟩ := mk_ST_adv hs h0
      refine mk_rs_b (ih (mk_str (mk_hd L) + 1) d (b + mt_sz X) L.tail (mk_adv o t) (by omega) (by omega) hd (by omega) (by omega) hA1) (fun Y v T e hT => ?_)
      obtain ⟨w1, w2, w3, w4⟩ := hT
      obtain ⟨⟨v1, v2, v3⟩, _⟩ := mk_val_ok _ _ _ _ _ (by omega) e
      have hpY := mt_V_pos v1
      have hkT : mk_kp o (b + mt_sz X) t T := mk_kp_tr hA2 w4 (Nat.le_refl _)
      rw [mk_signNumber _ hlt, mi_bs]
      obtain ⟨v', T', e', hW⟩ := mk_joint (N := N) (R := R) (t := t0) (k := 4) (a := mk_sg (mk_hd L)) (by omega) w2 (mk_kp_tr hkp hkT (by omega)) (mt_RC_kp hkT _ _ (Nat.le_refl _) hR) w3 (by omega)
      rw [w1]
      rw [show mf_Tree_addJoint N R o (3 : Int32) (nI (mk_sg (mk_hd L))) (nI (b + mt_sz X - 1)) (nI (b + mt_sz X + mt_sz Y.1 - 1)) T = some (.inl v', T') from e', mi_b]
      obtain ⟨z1, z2, z3, z4⟩ := hW
      rw [z1, show Int32.ofInt 1 = nI 1 from rfl, mi_add]
      refine ihg F (i + 1) _ _ T' (by rw [mt_V_nd]; exact Or.inr (Or.inr (Or.inr ⟨rfl, mk_sg_le _, hX, v1⟩))) (by omega) (by omega) (by omega) (by rw [mt_sz_nd]; omega) z2 z3 z4
theorem mk_valC {M : mk_L} (hM : mk_wT M) (hN : 200 ≤ N) : ∀ f, mk_SV N R o M f := by
  intro f
  induction f with
  | zero => intro w d b L t h1 h2 h3 h4; omega
  | succ f ih =>
    intro w d b L t hw hw6 hd hf hb hs
    rw [me_Parser_valueR, mf_Parser_valueB, mk_val_s]
    refine mk_rs_b (mk_itemC hM ih hd (by omega) hb hs) (fun X v T e hT => ?_)
    obtain ⟨w1, w2, w3, w4⟩ := hT
    obtain ⟨v1, v2, v3⟩ := mk_item_ok (fun w d L X hw h => (mk_val_ok f w d L X hw h).1) e
    rw [w1]
    exact mk_vlC hM ih hw hw6 hd (by omega) (X.2.length + 1) N 0 X.1 X.2 T v1 (by omega) (by omega) (by omega) (by omega) w2 w3 w4
/-! relations -/
def mt_b3 (a1 a2 a3 : Bool) : Nat := (if a1 then 1 else 0) + (if a2 then 2 else 0) + (if a3 then 4 else 0)
theorem mt_b3_or (a1 a2 a3 : Bool) (p : Nat) (hp : p ≤ 3) : nI (mt_b3 a1 a2 a3) ||| nI (mq_cp p) = nI (mt_b3 (a1 || Nat.beq p 1) (a2 || Nat.beq p 2) (a3 || Nat.beq p 3)) := by
  have : p = 0 ∨ p = 1 ∨ p = 2 ∨ p = 3 := by omega
  rcases this with rfl | rfl | rfl | rfl <;> cases a1 <;> cases a2 <;> cases a3 <;> decide
theorem mk_arel (x1 x2 x3 x4 : Int32) {sz : Nat} (hsz : sz ≤ 160) {t : mw_T} (h8 : t.1 (8 + o) 7 = nI sz) : ∀ (X : mt_T), mt_V X → ∀ (b g : Nat) (a1 a2 a3 : Bool), mt_RC o t b X → b + mt_sz X ≤ sz →
    mf_Tree_addRelation_l7 N R o (g + mt_sz X) x1 x2 x3 x4 (nI (mt_b3 a1 a2 a3)) (nI b) t = mf_Tree_addRelation_l7 N R o g x1 x2 x3 x4 (nI (mt_b3 (a1 || mt_ac 1 X) (a2 || mt_ac 2 X) (a3 || mt_ac 3 X))) (nI (b + mt_sz X)) t := by
  have plain : ∀ (i g : Nat) (acc : Int32) (c : Nat), i < sz → t.1 (9 + o) i = nI c → c ≠ 2 → c < 100 → mf_Tree_addRelation_l7 N R o (g + 1) x1 x2 x3 x4 acc (nI i) t = mf_Tree_addRelation_l7 N R o g x1 x2 x3 x4 acc (nI (i + 1)) t := by
    intro i g acc c hi hc h2 h100
    have hin : mj_in (nI i) 160 = true := mi_inT (by omega) (by omega)
    rw [me_Tree_addRelation_l7, mf_Tree_addRelation_l7B, h8, if_pos (mi_ltT (by omega) hi), if_pos hin, mi_tn (by omega), hc, if_neg (show ¬ nI c = (2 : Int32) from mi_neT (b := 2) (by omega) (by omega) h2), mf_Tree_addRelation_b39, mi_l1, mi_add]
  intro X hX
  refine mt_Vind (P := fun X => ∀ (b g : Nat) (a1 a2 a3 : Bool), mt_RC o t b X → b + mt_sz X ≤ sz →
    mf_Tree_addRelation_l7 N R o (g + mt_sz X) x1 x2 x3 x4 (nI (mt_b3 a1 a2 a3)) (nI b) t = mf_Tree_addRelation_l7 N R o g x1 x2 x3 x4 (nI (mt_b3 (a1 || mt_ac 1 X) (a2 || mt_ac 2 X) (a3 || mt_ac 3 X))) (nI (b + mt_sz X)) t) ?_ ?_ ?_ ?_ X hX
  · intro a n m hn b g a1 a2 a3 hR hb
    rw [mt_RC_nd, mt_nC] at hR
    rw [mt_sz_nd, mt_sz_0] at hb ⊢
    simp only [mt_ac_nd, mt_ac_0, show Nat.beq 1 3 = false from rfl, Bool.false_and, Bool.or_false]
    exact plain b g _ 0 (by omega) hR.1.1 (by omega) (by omega)
  · intro a n m b g a1 a2 a3 hR hb
    rw [mt_RC_nd, mt_nC] at hR
    rw [mt_sz_nd, mt_sz_0] at hb ⊢
    simp only [mt_ac_nd, mt_ac_0, show Nat.beq 2 3 = false from rfl, Bool.false_and, Bool.or_false]
    exact plain b g _ 1 (by omega) hR.1.1 (by omega) (by omega)
  · intro a n m l ha hn hl ih b g a1 a2 a3 hR hb
    rw [mt_RC_nd, mt_nC] at hR
    obtain ⟨⟨p1, p2, _⟩, hRl, _⟩ := hR
    rw [mt_sz_nd, mt_sz_0] at hb ⊢
    rw [mt_sz_0, Nat.add_zero] at p1 p2
    have hin : mj_in (nI (b + mt_sz l)) 160 = true := mi_inT (by omega) (by omega)
    rw [show g + (mt_sz l + 0 + 1) = g + 1 + mt_sz l by omega, ih b (g + 1) a1 a2 a3 hRl (by omega), me_Tree_addRelation_l7, mf_Tree_addRelation_l7B, h8, if_pos (mi_ltT (by omega) (by omega)), if_pos hin, mi_tn (by omega), p1, if_pos (show nI (mt_ck 3) = (2 : Int32) from rfl), if_pos hin, p2, mt_cs, if_pos (Or.inl rfl), mt_b3_or _ _ _ _ ha, mf_Tree_addRelation_b39, mi_l1, mi_add]
    simp only [mt_ac_nd, mt_ac_0, Bool.or_false, show Nat.beq 3 3 = true from rfl, Bool.true_and]
    rw [show b + mt_sz l + 1 = b + (mt_sz l + 0 + 1) by omega, Bool.or_assoc, Bool.or_assoc, Bool.or_assoc, Bool.or_comm (mt_ac 1 l), Bool.or_comm (mt_ac 2 l), Bool.or_comm (mt_ac 3 l)]
  · intro a n m l r ha hl hr ih1 ih2 b g a1 a2 a3 hR hb
    rw [mt_RC_nd, mt_nC] at hR
    obtain ⟨⟨p1, p2, _⟩, hRl, hRr⟩ := hR
    rw [mt_sz_nd] at hb ⊢
    rw [show g + (mt_sz l + mt_sz r + 1) = g + 1 + mt_sz r + mt_sz l by omega, ih1 b (g + 1 + mt_sz r) a1 a2 a3 hRl (by omega), ih2 (b + mt_sz l) (g + 1) _ _ _ hRr (by omega), plain _ g _ 3 (by omega) p1 (by omega) (by omega)]
    simp only [mt_ac_nd, show Nat.beq 4 3 = false from rfl, Bool.false_and, Bool.false_or]
    rw [show b + mt_sz l + mt_sz r + 1 = b + (mt_sz l + mt_sz r + 1) by omega, Bool.or_assoc, Bool.or_assoc, Bool.or_assoc]
theorem mt_b3_pm (l r : mt_T) : mt_b3 (false || mt_ac 1 l || mt_ac 1 r) (false || mt_ac 2 l || mt_ac 2 r) (false || mt_ac 3 l || mt_ac 3 r) = mt_pm l r := by
  simp only [Bool.false_or]; rfl
theorem mk_addRel (hN : 200 ≤ N) {t u : mw_T} {M L : mk_L} {d b a : Nat} {l r : mt_T} (hl' : mt_V l) (hr' : mt_V r) (hs : mk_ST o u M L d (b + mt_sz l + mt_sz r)) (hkp : mk_kp o b t u) (hl : mt_RC o u b l) (hr : mt_RC o u (b + mt_sz l) r) (hb : b + mt_sz l + mt_sz r < 160) : ∃ v T, mf_Tree_addRelation N R o (nI (mt_rel a)) (nI (b + mt_sz l - 1)) (nI (b + mt_sz l + mt_sz r - 1)) (nI b) u = some (.inl v, T) ∧ mk_W o t M d b (mt_nd 8 a 0 0 l r, L) v T := by
  have hin : mj_in (nI (b + mt_sz l + mt_sz r)) 160 = true := mi_inT (by omega) hb
  have h1 := mk_arel (N := N) (R := R) (nI (mt_rel a)) (nI (b + mt_sz l - 1)) (nI (b + mt_sz l + mt_sz r - 1)) (nI b) (by omega) hs.2.2.2 l hl' b (N - mt_sz l) false false false hl (by omega)
  have h2 := mk_arel (N := N) (R := R) (nI (mt_rel a)) (nI (b + mt_sz l - 1)) (nI (b + mt_sz l + mt_sz r - 1)) (nI b) (by omega) hs.2.2.2 r hr' (b + mt_sz l) (N - mt_sz l - mt_sz r) (false || mt_ac 1 l) (false || mt_ac 2 l) (false || mt_ac 3 l) hr (by omega)
  rw [Nat.sub_add_cancel (by omega)] at h1
  rw [Nat.sub_add_cancel (by omega), mt_b3_pm] at h2
  obtain ⟨g, hg⟩ : ∃ g, N - mt_sz l - mt_sz r = g + 1 := ⟨N - mt_sz l - mt_sz r - 1, by omega⟩
  have hpm : mt_pm l r < 100 := by unfold mt_pm; split <;> split <;> split <;> omega
  have e : mf_Tree_addRelation N R o (nI (mt_rel a)) (nI (b + mt_sz l - 1)) (nI (b + mt_sz l + mt_sz r - 1)) (nI b) u = some (.inl (nI (b + mt_sz l + mt_sz r)), mw_wl (mw_wi (mk_aj o u (b + mt_sz l + mt_sz r) (4 : Int32) (nI (mt_rel a)) (nI (b + mt_sz l - 1)) (nI (b + mt_sz l + mt_sz r - 1))) (13 + o) (b + mt_sz l + mt_sz r) (nI b)) (14 + o) (b + mt_sz l + mt_sz r) (nL (mt_pm l r))) := by
    rw [mf_Tree_addRelation]
    refine (h1.trans (h2.trans ?_))
    rw [hg, me_Tree_addRelation_l7, mf_Tree_addRelation_l7B, hs.2.2.2, if_neg (mi_ltF (by omega) (by omega)), mk_addJoint hs.2.2.2 hb, mi_b, if_pos hin, if_pos hin, mi_tn (by omega), mi_IL (by omega)]
  refine ⟨_, _, e, mk_W_nd hs hkp hl hr ?_ ?_⟩
  · obtain ⟨g1, g2, g3⟩ := mk_aj_nx (o := o) u (b + mt_sz l + mt_sz r) (4 : Int32) (nI (mt_rel a)) (nI (b + mt_sz l - 1)) (nI (b + mt_sz l + mt_sz r - 1))
    refine ⟨?_, fun q x1 x2 i => ⟨?_, ?_⟩, fun q x1 x2 i hi => ⟨?_, ?_⟩⟩
    · rw [mi_wl1, mi_wi, if_neg (by omega)]; exact g1
    · rw [mi_wl1, mi_wi, if_neg (by omega)]; exact (g2 q x1 x2 i).1
    · rw [mi_wl, if_neg (by omega)]; exact (g2 q x1 x2 i).2
    · rw [mi_wl1, mi_wi, if_neg (show ¬ i = b + mt_sz l + mt_sz r by omega), ite_self]; exact (g3 q x1 x2 i hi).1
    · rw [mi_wl, if_neg (show ¬ i = b + mt_sz l + mt_sz r by omega), ite_self]; exact (g3 q x1 x2 i hi).2
  · refine ⟨?_, ?_, fun _ _ => ?_, fun _ => ?_, fun _ => ⟨?_, ?_⟩, fun h => by omega, fun h => by omega⟩
    · rw [mi_wl1, mi_wi, if_neg (by omega), mk_aj_i, if_neg (by omega), if_neg (by omega), if_neg (by omega), if_neg (by omega), if_pos ⟨rfl, rfl⟩]; rfl
    · rw [mi_wl1, mi_wi, if_neg (by omega), mk_aj_i, if_neg (by omega), if_neg (by omega), if_neg (by omega), if_pos ⟨rfl, rfl⟩]; rfl
    · rw [mi_wl1, mi_wi, if_neg (by omega), mk_aj_i, if_neg (by omega), if_neg (by omega), if_pos ⟨rfl, rfl⟩]
    · rw [mi_wl1, mi_wi, if_neg (by omega), mk_aj_i, if_neg (by omega), if_pos ⟨rfl, rfl⟩]
    · rw [mi_wl1, mi_wi, if_pos rfl, if_pos rfl]
    · rw [mi_wl, if_pos rfl, if_pos rfl]
theorem mk_isRel (k : Nat) (hk : k < 100000) (t : mw_T) : mf_Parser_isRelationSign N R (nI k) t = some (.inl (if mk_rl k = 0 then 0 else 1), t) := by
  rw [mf_Parser_isRelationSign]
  have key : ∀ c : Nat, c < 100000 → (nI k = nI c ↔ k = c) := fun c hc => by rw [mi_eq (by omega) (by omega)]
  have e1 : (nI k = (61 : Int32)) ↔ k = 61 := key 61 (by omega)
  have e2 : (nI k = (60 : Int32)) ↔ k = 60 := key 60 (by omega)
  have e3 : (nI k = (62 : Int32)) ↔ k = 62 := key 62 (by omega)
  have e4 : (nI k = (8509 : Int32)) ↔ k = 8509 := key 8509 (by omega)
  have e5 : (nI k = (15421 : Int32)) ↔ k = 15421 := key 15421 (by omega)
  have e6 : (nI k = (15933 : Int32)) ↔ k = 15933 := key 15933 (by omega)
  simp only [e1, e2, e3, e4, e5, e6]
  unfold mk_rl
  by_cases h1 : k = 61
  · subst h1; rfl
  by_cases h2 : k = 60
  · subst h2; rfl
  by_cases h3 : k = 62
  · subst h3; rfl
  by_cases h4 : k = 8509
  · subst h4; rfl
  by_cases h5 : k = 15421
  · subst h5; rfl
  by_cases h6 : k = 15933
  · subst h6; rfl
  simp only [h1, h2, h3, h4, h5, h6, if_false]
  rfl
theorem mt_rel_rl {k : Nat} (h : mk_rl k ≠ 0) : mt_rel (mk_rl k) = k := by
  have : k = 61 ∨ k = 8509 ∨ k = 62 ∨ k = 15421 ∨ k = 15933 ∨ k = 60 := by
    unfold mk_rl at h
    split at h
    · omega
    split at h
    · omega
    split at h
    · omega
    split at h
    · omega
    split at h
    · omega
    split at h
    · omega
    · omega
  rcases this with rfl | rfl | rfl | rfl | rfl | rfl <;> decide
theorem mk_relC {M : mk_L} (hM : mk_wT M) (hN : 200 ≤ N) (hR : 54 ≤ R) {d b : Nat} {L : mk_L} {t : mw_T} (hd : d ≤ 8) (hb : b + L.length ≤ 160) (hs : mk_ST o t M L d b) : mk_rs (mf_Parser_relation N R o t) (mk_rel R d L) (mk_W o t M d b) := by
  rw [mf_Parser_relation, mf_Tree_size, mi_b, mk_rel]
  refine mk_rs_b (mk_valC hM hN R 1 d b L t (by omega) (by omega) hd (by omega) hb hs) (fun X v T e hT => ?_)
  obtain ⟨w1, w2, w3, w4⟩ := hT
  obtain ⟨⟨v1, v2, v3⟩, _⟩ := mk_val_ok _ _ _ _ _ (by omega) e
  obtain ⟨_, ⟨p, h4, h5⟩, _⟩ := id w2
  obtain ⟨hlt, _⟩ := mk_hd_lt hM h4
  rw [mk_kind w2, mi_b, mk_isRel _ hlt, mi_bs]
  by_cases hr : mk_rl (mk_hd X.2) = 0
  · rw [if_pos hr, if_pos hr, if_pos rfl]
    exact mk_rs_no rfl
  · rw [if_neg hr, if_neg hr, if_neg (by decide)]
    have h0 : mk_hd X.2 ≠ 0 := fun e => by rw [e] at hr; exact hr (by decide)
    have hlen := mk_len h0
    obtain ⟨hA1, hA2⟩ := mk_ST_adv w2 h0
    refine mk_rs_b (mk_valC hM hN R 1 d (b + mt_sz X.1) X.2.tail (mk_adv o T) (by omega) (by omega) hd (by omega) (by omega) hA1) (fun Y v' T' e' hT' => ?_)
    obtain ⟨y1, y2, y3, y4⟩ := hT'
    obtain ⟨⟨u1, u2, u3⟩, _⟩ := mk_val_ok _ _ _ _ _ (by omega) e'
    have hkT : mk_kp o (b + mt_sz X.1) T T' := mk_kp_tr hA2 y4 (Nat.le_refl _)
    obtain ⟨v2', T2, e2, hW⟩ := mk_addRel (N := N) (R := R) (t := t) (a := mk_rl (mk_hd X.2)) hN v1 u1 y2 (mk_kp_tr w4 hkT (by omega)) (mt_RC_kp hkT _ _ (Nat.le_refl _) w3) y3 (by omega)
    rw [mt_rel_rl hr] at e2
    rw [w1, y1, hs.2.2.2, e2, mi_b]
    exact mk_rs_ok rfl hW
end
