/-! THE CODE of a whole filter by the reference: leaf by leaf -/
/-- all leaves' code, one behind the other -/
def mt_gf : mt_T → mi_P
  | .tag k (.tag a (.tag n (.tag m (.append l r)))) => if k = 5 ∨ k = 6 then mt_gf l ++ mt_gf r else if k = 7 then mt_gf l else mt_gL k a n m l r
  | _ => []
theorem mt_gf_nd (k a n m : Nat) (l r : mt_T) : mt_gf (mt_nd k a n m l r) = if k = 5 ∨ k = 6 then mt_gf l ++ mt_gf r else if k = 7 then mt_gf l else mt_gL k a n m l r := by rw [mt_nd, mt_gf]
theorem mi_okl_rs (L : mi_P) (dy dn : Nat) : mi_okl (mt_rs L dy dn) = mi_okl L := by
  induction L with
  | nil => rfl
  | cons z L ih =>
    rw [mt_rs]
    unfold mi_okl at ih ⊢
    rw [List.all_cons, List.all_cons, ih]
theorem mt_ge_gf : ∀ (X : mt_T), mt_C X → ∀ dy dn, (mt_ge X dy dn).length = (mt_gf X).length ∧ mi_okl (mt_ge X dy dn) = mi_okl (mt_gf X) := by
  intro X hX
  refine mt_Cind (P := fun X => ∀ dy dn, (mt_ge X dy dn).length = (mt_gf X).length ∧ mi_okl (mt_ge X dy dn) = mi_okl (mt_gf X)) ?_ ?_ ?_ ?_ ?_ X hX
  · intro k a n m l r hk hl hr ih1 ih2 dy dn
    rw [mt_ge_nd, mt_gf_nd, if_pos (show k = 5 ∨ k = 6 from hk)]
    rcases hk with rfl | rfl
    · rw [if_pos rfl, List.length_append, List.length_append, mi_okl_app, mi_okl_app, (ih1 _ _).1, (ih2 dy dn).1, (ih1 _ _).2, (ih2 dy dn).2]
      exact ⟨rfl, rfl⟩
    · rw [if_neg (by decide), if_pos rfl, List.length_append, List.length_append, mi_okl_app, mi_okl_app, (ih1 _ _).1, (ih2 dy dn).1, (ih1 _ _).2, (ih2 dy dn).2]
      exact ⟨rfl, rfl⟩
  · intro a n m l hl ih dy dn
    rw [mt_ge_nd, mt_gf_nd, if_neg (by decide), if_neg (by decide), if_pos rfl, if_neg (by decide), if_pos rfl]
    exact ih dn dy
  · intro a n m l r _ _ _ _ dy dn
    rw [mt_ge_nd, mt_gf_nd, if_neg (by decide), if_neg (by decide), if_neg (by decide), if_neg (by decide), if_neg (by decide), mt_rs_len, mi_okl_rs]
    exact ⟨rfl, rfl⟩
  · intro a n m _ _ dy dn
    rw [mt_ge_nd, mt_gf_nd, if_neg (by decide), if_neg (by decide), if_neg (by decide), if_neg (by decide), if_neg (by decide), mt_rs_len, mi_okl_rs]
    exact ⟨rfl, rfl⟩
  · intro k a n m hk _ _ _ dy dn
    rw [mt_ge_nd, mt_gf_nd, if_neg (by omega), if_neg (by omega), if_neg (by omega), if_neg (by omega), if_neg (by omega), mt_rs_len, mi_okl_rs]
    exact ⟨rfl, rfl⟩
/-- the room for the tasks of every value -/
def mt_kk : mt_T → Prop
  | .tag k (.tag _ (.tag _ (.tag _ (.append l r)))) => ((k = 5 ∨ k = 6) → mt_kk l ∧ mt_kk r) ∧ (k = 7 → mt_kk l) ∧ (k = 8 → mt_tk l ≤ 900 ∧ mt_tk r ≤ 900)
  | _ => True
theorem mt_kk_nd (k a n m : Nat) (l r : mt_T) : mt_kk (mt_nd k a n m l r) = (((k = 5 ∨ k = 6) → mt_kk l ∧ mt_kk r) ∧ (k = 7 → mt_kk l) ∧ (k = 8 → mt_tk l ≤ 900 ∧ mt_tk r ≤ 900)) := by rw [mt_nd, mt_kk]
/-- the leaves' code lies there, and where each begins is noted -/
def mt_EM (T : mw_T) : Nat → Nat → mt_T → Prop
  | b, c, .tag k (.tag a (.tag n (.tag m (.append l r)))) => ((k = 5 ∨ k = 6) → mt_EM T b c l ∧ mt_EM T (b + mt_sz l) (c + (mt_gf l).length) r) ∧ (k = 7 → mt_EM T b c l) ∧ (8 ≤ k → T.1 62 (b + mt_sz l + mt_sz r) = nI c ∧ mi_gs T c (T.1 56 (b + mt_sz l + mt_sz r)) (T.1 57 (b + mt_sz l + mt_sz r)) (mt_gL k a n m l r))
  | _, _, _ => True
theorem mt_EM_nd (T : mw_T) (b c k a n m : Nat) (l r : mt_T) : mt_EM T b c (mt_nd k a n m l r) = (((k = 5 ∨ k = 6) → mt_EM T b c l ∧ mt_EM T (b + mt_sz l) (c + (mt_gf l).length) r) ∧ (k = 7 → mt_EM T b c l) ∧ (8 ≤ k → T.1 62 (b + mt_sz l + mt_sz r) = nI c ∧ mi_gs T c (T.1 56 (b + mt_sz l + mt_sz r)) (T.1 57 (b + mt_sz l + mt_sz r)) (mt_gL k a n m l r))) := by rw [mt_nd, mt_EM]
/-- the tree and the labels stay; starts change within a range -/
def mi_kz (b e : Nat) (t T : mw_T) : Prop := (∀ q, 51 ≤ q → q ≤ 58 → ∀ i, T.1 q i = t.1 q i ∧ T.2.1 q i = t.2.1 q i) ∧ (∀ i, i < b ∨ e ≤ i → T.1 62 i = t.1 62 i) ∧ T.1 49 9 = t.1 49 9
theorem mi_kz_tr {b e b' e' b2 e2 : Nat} {t u T : mw_T} (h : mi_kz b e t u) (g : mi_kz b' e' u T) (h1 : b2 ≤ b) (h2 : b2 ≤ b') (h3 : e ≤ e2) (h4 : e' ≤ e2) : mi_kz b2 e2 t T :=
  ⟨fun q a c i => ⟨((g.1 q a c i).1).trans (h.1 q a c i).1, ((g.1 q a c i).2).trans (h.1 q a c i).2⟩, fun i hi => (g.2.1 i (by omega)).trans (h.2.1 i (by omega)), g.2.2.trans h.2.2⟩
theorem mt_EM_eq {e c' : Nat} {t T : mw_T} (h1 : ∀ i, i < e → T.1 62 i = t.1 62 i) (h2 : ∀ i, T.1 56 i = t.1 56 i ∧ T.1 57 i = t.1 57 i) (h3 : mi_gk c' t T) : ∀ (X : mt_T), mt_C X → ∀ (b c : Nat), b + mt_sz X ≤ e → c + (mt_gf X).length ≤ c' → mt_EM t b c X → mt_EM T b c X := by
  have leaf : ∀ (k a n m : Nat) (l r : mt_T), 8 ≤ k → ∀ (b c : Nat), b + mt_sz (mt_nd k a n m l r) ≤ e → c + (mt_gf (mt_nd k a n m l r)).length ≤ c' → mt_EM t b c (mt_nd k a n m l r) → mt_EM T b c (mt_nd k a n m l r) := by
    intro k a n m l r hk b c hb hc hp
    rw [mt_sz_nd] at hb
    rw [mt_gf_nd, if_neg (by omega), if_neg (by omega)] at hc
    rw [mt_EM_nd] at hp ⊢
    refine ⟨fun h => by omega, fun h => by omega, fun _ => ?_⟩
    obtain ⟨p1, p2⟩ := hp.2.2 hk
    refine ⟨(h1 _ (by omega)).trans p1, ?_⟩
    rw [(h2 _).1, (h2 _).2]
    intro j z hz
    have hj : j < (mt_gL k a n m l r).length := by
      rw [List.getElem?_eq_some_iff] at hz
      exact hz.1
    obtain ⟨r1, r2, r3, r4⟩ := p2 j z hz
    obtain ⟨u1, u2, u3, u4⟩ := h3 (c + j) (by omega)
    exact ⟨u1.trans r1, u2.trans r2, u3.trans r3, u4.trans r4⟩
  intro X hX
  refine mt_Cind (P := fun X => ∀ (b c : Nat), b + mt_sz X ≤ e → c + (mt_gf X).length ≤ c' → mt_EM t b c X → mt_EM T b c X) ?_ ?_ ?_ ?_ ?_ X hX
  · intro k a n m l r hk hl hr ih1 ih2 b c hb hc hp
    rw [mt_sz_nd] at hb
    rw [mt_gf_nd, if_pos hk, List.length_append] at hc
    rw [mt_EM_nd] at hp ⊢
    obtain ⟨p1, p2⟩ := hp.1 hk
    exact ⟨fun _ => ⟨ih1 b c (by omega) (by omega) p1, ih2 _ _ (by omega) (by omega) p2⟩, fun h => by omega, fun h => by omega⟩
  · intro a n m l hl ih b c hb hc hp
    rw [mt_sz_nd] at hb
    rw [mt_gf_nd, if_neg (by decide), if_pos rfl] at hc
    rw [mt_EM_nd] at hp ⊢
    exact ⟨fun h => by omega, fun _ => ih b c (by omega) hc (hp.2.1 rfl), fun h => by omega⟩
  · intro a n m l r _ _ _ _
    exact leaf 8 a n m l r (by omega)
  · intro a n m _ _
    exact leaf 9 a n m mt_0 mt_0 (by omega)
  · intro k a n m hk _ _ _
    exact leaf k a n m mt_0 mt_0 (by omega)
section
variable {N R : Nat}
theorem mt_cp_val (nodes : Nat) (hn : nodes ≤ 170) : ∀ (X : mt_T), mt_V X → ∀ (b g : Nat) (t : mw_T), mt_RM 0 t b X → b + mt_sz X ≤ nodes → t.1 49 9 = nI nodes → mf_Model_compile_l34 N R (g + mt_sz X) (nI b) t = mf_Model_compile_l34 N R g (nI (b + mt_sz X)) t := by
  have turn : ∀ (i g k : Nat) (t : mw_T), i < nodes → k < 8 → t.1 51 i = nI k → t.1 49 9 = nI nodes → mf_Model_compile_l34 N R (g + 1) (nI i) t = mf_Model_compile_l34 N R g (nI (i + 1)) t := by
    intro i g k t hi hk q h9
    have hin : mj_in (nI i) 170 = true := mi_inT (by omega) (by omega)
    rw [me_Model_compile_l34, mf_Model_compile_l34B, h9, if_pos (mi_ltT (by omega) hi), if_pos hin, mi_tn (by omega), q, if_pos (show nI k < (8 : Int32) from mi_ltT (b := 8) (by omega) hk), mf_Model_compile_b58, mi_l1, mi_add]
  intro X hX
  refine mt_Vind (P := fun X => ∀ (b g : Nat) (t : mw_T), mt_RM 0 t b X → b + mt_sz X ≤ nodes → t.1 49 9 = nI nodes → mf_Model_compile_l34 N R (g + mt_sz X) (nI b) t = mf_Model_compile_l34 N R g (nI (b + mt_sz X)) t) ?_ ?_ ?_ ?_ X hX
  · intro a n m hn b g t hR hb h9
    rw [mt_RM_nd, mt_nM] at hR
    rw [mt_sz_nd, mt_sz_0] at hb ⊢
    exact turn b g 1 t (by omega) (by omega) hR.1.1 h9
  · intro a n m b g t hR hb h9
    rw [mt_RM_nd, mt_nM] at hR
    rw [mt_sz_nd, mt_sz_0] at hb ⊢
    exact turn b g 2 t (by omega) (by omega) hR.1.1 h9
  · intro a n m l ha hn hl ih b g t hR hb h9
    rw [mt_RM_nd, mt_nM] at hR
    rw [mt_sz_nd, mt_sz_0] at hb ⊢
    rw [show g + (mt_sz l + 0 + 1) = g + 1 + mt_sz l by omega, ih b (g + 1) t hR.2.1 (by omega) h9]
    exact turn (b + mt_sz l) g 3 t (by omega) (by omega) hR.1.1 h9
  · intro a n m l r ha hl hr ih1 ih2 b g t hR hb h9
    rw [mt_RM_nd, mt_nM] at hR
    rw [mt_sz_nd] at hb ⊢
    rw [show g + (mt_sz l + mt_sz r + 1) = g + 1 + mt_sz r + mt_sz l by omega, ih1 b (g + 1 + mt_sz r) t hR.2.1 (by omega) h9, ih2 (b + mt_sz l) (g + 1) t hR.2.2 (by omega) h9]
    have := turn (b + mt_sz l + mt_sz r) g 4 t (by omega) (by omega) hR.1.1 h9
    rw [show b + (mt_sz l + mt_sz r + 1) = b + mt_sz l + mt_sz r + 1 by omega]
    exact this
theorem mt_RM_kz {b e : Nat} {t T : mw_T} (h : mi_kz b e t T) {X : mt_T} {b' : Nat} (hR : mt_RM 0 t b' X) : mt_RM 0 T b' X := by
  refine mt_RM_eq (e := b' + mt_sz X) (fun i _ => ⟨⟨?_, ?_, ?_, ?_, ?_⟩, ?_⟩) _ _ (Nat.le_refl _) hR
  · exact (h.1 51 (by omega) (by omega) i).1
  · exact (h.1 52 (by omega) (by omega) i).1
  · exact (h.1 53 (by omega) (by omega) i).1
  · exact (h.1 54 (by omega) (by omega) i).1
  · exact (h.1 55 (by omega) (by omega) i).1
  · exact (h.1 58 (by omega) (by omega) i).2
theorem mt_cp (hN : 1400 ≤ N) (nodes : Nat) (hnn : nodes ≤ 170) : ∀ (X : mt_T), mt_C X → ∀ (b c g : Nat) (F : Bool) (t : mw_T), mt_RM 0 t b X → mt_kk X → b + mt_sz X ≤ nodes → t.1 49 9 = nI nodes → mi_sM t c F →
    ∃ T, mf_Model_compile_l34 N R (g + mt_sz X) (nI b) t = mf_Model_compile_l34 N R g (nI (b + mt_sz X)) T ∧ mi_kz b (b + mt_sz X) t T ∧ mi_sM T (c + (mt_gf X).length) (mi_bd c F (mt_gf X)) ∧ (mi_bd c F (mt_gf X) = false → mt_EM T b c X ∧ mi_gk c t T) := by
  have leaf : ∀ (k a n m : Nat) (l r : mt_T), 8 ≤ k → mt_C (mt_nd k a n m l r) → (k = 8 → mt_V l ∧ mt_V r) → (k ≠ 8 → l = mt_0 ∧ r = mt_0) → ∀ (b c g : Nat) (F : Bool) (t : mw_T), mt_RM 0 t b (mt_nd k a n m l r) → mt_kk (mt_nd k a n m l r) → b + mt_sz (mt_nd k a n m l r) ≤ nodes → t.1 49 9 = nI nodes → mi_sM t c F →
    ∃ T, mf_Model_compile_l34 N R (g + mt_sz (mt_nd k a n m l r)) (nI b) t = mf_Model_compile_l34 N R g (nI (b + mt_sz (mt_nd k a n m l r))) T ∧ mi_kz b (b + mt_sz (mt_nd k a n m l r)) t T ∧ mi_sM T (c + (mt_gf (mt_nd k a n m l r)).length) (mi_bd c F (mt_gf (mt_nd k a n m l r))) ∧ (mi_bd c F (mt_gf (mt_nd k a n m l r)) = false → mt_EM T b c (mt_nd k a n m l r) ∧ mi_gk c t T) := by
    intro k a n m l r hk hC hV h0 b c g F t hR hkk hb h9 hs
    have hk100 : k < 100 := by rw [mt_C_nd] at hC; omega
    rw [mt_sz_nd] at hb ⊢
    rw [mt_gf_nd, if_neg (by omega), if_neg (by omega)]
    rw [mt_kk_nd] at hkk
    have hR' := hR
    rw [mt_RM_nd, mt_nM] at hR'
    obtain ⟨⟨p1, -⟩, hRl, hRr⟩ := hR'
    have hin : mj_in (nI (b + mt_sz l + mt_sz r)) 170 = true := mi_inT (by omega) (by omega)
    -- up to the leaf itself
    have hup : mf_Model_compile_l34 N R (g + (mt_sz l + mt_sz r + 1)) (nI b) t = mf_Model_compile_l34 N R (g + 1) (nI (b + mt_sz l + mt_sz r)) t := by
      by_cases h8 : k = 8
      · obtain ⟨vl, vr⟩ := hV h8
        rw [show g + (mt_sz l + mt_sz r + 1) = g + 1 + mt_sz r + mt_sz l by omega, mt_cp_val nodes hnn l vl b (g + 1 + mt_sz r) t hRl (by omega) h9, mt_cp_val nodes hnn r vr (b + mt_sz l) (g + 1) t hRr (by omega) h9]
      · obtain ⟨rfl, rfl⟩ := h0 h8
        rfl
    obtain ⟨T, e1, e2, e3, e4⟩ := mt_m_leaf (N := N) (R := R) hN b k a n m l r hk hC _ _ hs hR (by omega) rfl rfl hkk.2.2
    have h9T : T.1 49 9 = nI nodes := by
      have ag := mi_agF (o := 0) (S := [(49, 9)]) (Or.inl rfl) (mg_Model_emitLeaf N R (nI (b + mt_sz l + mt_sz r)) t) e1 (by decide)
      exact (mi_agI ag (by simp) 9 (Or.inr rfl)).trans h9
    refine ⟨T, ?_, ⟨fun q g1 g2 i => ?_, fun i hi => ?_, h9T.trans h9.symm⟩, e3, fun hb => ?_⟩
    · rw [hup, me_Model_compile_l34, mf_Model_compile_l34B, h9, if_pos (mi_ltT (by omega) (by omega)), if_pos hin, mi_tn (by omega), p1, if_neg (show ¬ nI k < (8 : Int32) from mi_ltF (b := 8) (by omega) (by omega)), e1, mi_b, mf_Model_compile_b58, mi_l1, mi_add, show b + mt_sz l + mt_sz r + 1 = b + (mt_sz l + mt_sz r + 1) by omega]
    · obtain ⟨a1, a2⟩ := e2 q (by omega) i
      exact ⟨a1.trans (by rw [mi_wi, if_neg (by omega)]), a2⟩
    · exact ((e2 62 (by omega) i).1).trans (by rw [mi_wi, if_pos rfl, if_neg (by omega)])
    · obtain ⟨f1, f2⟩ := e4 hb
      refine ⟨?_, f2⟩
      rw [mt_EM_nd]
      refine ⟨fun h => by omega, fun h => by omega, fun _ => ⟨?_, ?_⟩⟩
      · have hF : F = false := by
          cases F with
          | false => rfl
          | true => cases hb
        exact ((e2 62 (by omega) _).1).trans (by rw [mi_wi, if_pos rfl, if_pos rfl]; exact (hs.2 hF).1)
      · rw [show T.1 56 (b + mt_sz l + mt_sz r) = t.1 56 (b + mt_sz l + mt_sz r) from (e2 56 (by omega) _).1, show T.1 57 (b + mt_sz l + mt_sz r) = t.1 57 (b + mt_sz l + mt_sz r) from (e2 57 (by omega) _).1]
        exact f1
  intro X hX
  refine mt_Cind (P := fun X => ∀ (b c g : Nat) (F : Bool) (t : mw_T), mt_RM 0 t b X → mt_kk X → b + mt_sz X ≤ nodes → t.1 49 9 = nI nodes → mi_sM t c F →
    ∃ T, mf_Model_compile_l34 N R (g + mt_sz X) (nI b) t = mf_Model_compile_l34 N R g (nI (b + mt_sz X)) T ∧ mi_kz b (b + mt_sz X) t T ∧ mi_sM T (c + (mt_gf X).length) (mi_bd c F (mt_gf X)) ∧ (mi_bd c F (mt_gf X) = false → mt_EM T b c X ∧ mi_gk c t T)) ?_ ?_ ?_ ?_ ?_ X hX
  · intro k a n m l r hk hl hr ih1 ih2 b c g F t hR hkk hb h9 hs
    rw [mt_sz_nd] at hb ⊢
    rw [mt_gf_nd, if_pos hk]
    rw [mt_kk_nd] at hkk
    rw [mt_RM_nd, mt_nM] at hR
    obtain ⟨⟨p1, -⟩, hRl, hRr⟩ := hR
    obtain ⟨T, e1, e2, e3, e4⟩ := ih1 b c (g + 1 + mt_sz r) F t hRl (hkk.1 hk).1 (by omega) h9 hs
    obtain ⟨U, f1, f2, f3, f4⟩ := ih2 (b + mt_sz l) (c + (mt_gf l).length) (g + 1) _ T (mt_RM_kz e2 hRr) (hkk.1 hk).2 (by omega) (e2.2.2.trans h9) e3
    have hkU : mi_kz b (b + (mt_sz l + mt_sz r + 1)) t U := mi_kz_tr e2 f2 (by omega) (by omega) (by omega) (by omega)
    have hin : mj_in (nI (b + mt_sz l + mt_sz r)) 170 = true := mi_inT (by omega) (by omega)
    refine ⟨U, ?_, hkU, by rw [List.length_append, mi_bd_app, ← Nat.add_assoc]; exact f3, fun hb' => ?_⟩
    · rw [show g + (mt_sz l + mt_sz r + 1) = g + 1 + mt_sz r + mt_sz l by omega, e1, f1, me_Model_compile_l34, mf_Model_compile_l34B, hkU.2.2, h9, if_pos (mi_ltT (by omega) (by omega)), if_pos hin, mi_tn (by omega), (hkU.1 51 (by omega) (by omega) _).1, p1, if_pos (show nI k < (8 : Int32) from mi_ltT (b := 8) (by omega) (by omega)), mf_Model_compile_b58, mi_l1, mi_add, show b + mt_sz l + mt_sz r + 1 = b + (mt_sz l + mt_sz r + 1) by omega]
    · rw [mi_bd_app] at hb'
      have hA : mi_bd c F (mt_gf l) = false := by
        cases hh : mi_bd c F (mt_gf l) with
        | false => rfl
        | true => rw [hh] at hb'; cases hb'
      obtain ⟨a1, a2⟩ := e4 hA
      obtain ⟨b1, b2⟩ := f4 hb'
      refine ⟨?_, fun i hi => ?_⟩
      · rw [mt_EM_nd]
        refine ⟨fun _ => ⟨mt_EM_eq (e := b + mt_sz l) (fun i hi => f2.2.1 i (by omega)) (fun i => ⟨(f2.1 56 (by omega) (by omega) i).1, (f2.1 57 (by omega) (by omega) i).1⟩) b2 l hl b c (Nat.le_refl _) (Nat.le_refl _) a1, b1⟩, fun h => by omega, fun h => by omega⟩
      · obtain ⟨r1, r2, r3, r4⟩ := a2 i hi
        obtain ⟨u1, u2, u3, u4⟩ := b2 i (by omega)
        exact ⟨u1.trans r1, u2.trans r2, u3.trans r3, u4.trans r4⟩
  · intro a n m l hl ih b c g F t hR hkk hb h9 hs
    rw [mt_sz_nd, mt_sz_0] at hb ⊢
    simp only [Nat.add_zero] at hb ⊢
    rw [mt_gf_nd, if_neg (by decide), if_pos rfl]
    rw [mt_kk_nd] at hkk
    rw [mt_RM_nd, mt_nM] at hR
    simp only [mt_sz_0, Nat.add_zero] at hR
    obtain ⟨⟨p1, -⟩, hRl, -⟩ := hR
    obtain ⟨T, e1, e2, e3, e4⟩ := ih b c (g + 1) F t hRl (hkk.2.1 rfl) (by omega) h9 hs
    have hin : mj_in (nI (b + mt_sz l)) 170 = true := mi_inT (by omega) (by omega)
    refine ⟨T, ?_, mi_kz_tr e2 ⟨fun _ _ _ _ => ⟨rfl, rfl⟩, fun _ _ => rfl, rfl⟩ (b' := b) (e' := b) (Nat.le_refl _) (Nat.le_refl _) (by omega) (by omega), e3, fun hb' => ?_⟩
    · rw [show g + (mt_sz l + 1) = g + 1 + mt_sz l by omega, e1, me_Model_compile_l34, mf_Model_compile_l34B, e2.2.2, h9, if_pos (mi_ltT (by omega) (by omega)), if_pos hin, mi_tn (by omega), (e2.1 51 (by omega) (by omega) _).1, p1, if_pos (show nI 7 < (8 : Int32) by decide), mf_Model_compile_b58, mi_l1, mi_add, show b + mt_sz l + 1 = b + (mt_sz l + 1) by omega]
    · obtain ⟨a1, a2⟩ := e4 hb'
      refine ⟨?_, a2⟩
      rw [mt_EM_nd]
      exact ⟨fun h => by omega, fun _ => a1, fun h => by omega⟩
  · intro a n m l r ha hb' hl hr
    exact leaf 8 a n m l r (by omega) (by rw [mt_C_nd]; exact Or.inr (Or.inr (Or.inl ⟨rfl, ha, hb', hl, hr⟩))) (fun _ => ⟨hl, hr⟩) (fun h => absurd rfl h)
  · intro a n m ha hb'
    exact leaf 9 a n m mt_0 mt_0 (by omega) (by rw [mt_C_nd]; exact Or.inr (Or.inr (Or.inr (Or.inl ⟨rfl, ha, hb', rfl, rfl⟩)))) (fun h => absurd h (by decide)) (fun _ => ⟨rfl, rfl⟩)
  · intro k a n m hk ha hm hc
    exact leaf k a n m mt_0 mt_0 (by omega) (by rw [mt_C_nd]; exact Or.inr (Or.inr (Or.inr (Or.inr ⟨hk, ha, hm, hc, rfl, rfl⟩)))) (fun h => by omega) (fun _ => ⟨rfl, rfl⟩)
end
