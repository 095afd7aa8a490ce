/-! .. relations and leaves of the reference -/
section
variable {N R : Nat}
/-- is there such an access: the reference's look -/
theorem mq_hasA (d node p : Nat) (hnode : node < 170) (hp : p < 100) (hd : d = 0) : ∀ (X : mt_T), mt_V X → ∀ (b g : Nat) (h : Bool) (t : mw_T), mt_RM d t b X → b + mt_sz X ≤ node →
    mf_Model_hasAccess_l10 N R (mt_sz X + g) (nI node) (nI p) (mj_b2 h) (nI b) t = mf_Model_hasAccess_l10 N R g (nI node) (nI p) (mj_b2 (h || mt_ac p X)) (nI (b + mt_sz X)) t := by
  subst hd
  -- one turn
  have turn : ∀ (i g k a : Nat) (h : Bool) (t : mw_T), i < node → k < 100 → (k = 3 → a < 100) → t.1 51 i = nI k → t.1 52 i = nI a → mf_Model_hasAccess_l10 N R (g + 1) (nI node) (nI p) (mj_b2 h) (nI i) t = mf_Model_hasAccess_l10 N R g (nI node) (nI p) (mj_b2 (h || (Nat.beq k 3 && Nat.beq a p))) (nI (i + 1)) t := by
    intro i g k a h t hi hk ha q1 q2
    have hin : mj_in (nI i) 170 = true := mi_inT (by omega) (by omega)
    rw [me_Model_hasAccess_l10, mf_Model_hasAccess_l10B, if_pos (mi_ltT (by omega) hi)]
    cases h with
    | true =>
      rw [if_neg (show ¬ mj_b2 true = 0 by decide), mf_Model_hasAccess_b42, mf_Model_hasAccess_b47, mi_l1, mi_add]
      rfl
    | false =>
      rw [if_pos (show mj_b2 false = 0 from rfl), if_pos hin, mi_tn (by omega), q1, q2]
      by_cases c1 : k = 3
      · subst c1
        have ha' := ha rfl
        rw [if_pos (show nI 3 = (3 : Int32) from rfl), if_pos hin]
        by_cases c2 : a = p
        · subst c2
          rw [if_pos rfl, mf_Model_hasAccess_b42, mf_Model_hasAccess_b47, mi_l1, mi_add, show Nat.beq a a = true from Nat.beq_refl a]
          rfl
        · rw [if_neg (mi_neT (by omega) (by omega) c2), mf_Model_hasAccess_b46, mf_Model_hasAccess_b47, mi_l1, mi_add]
          have : Nat.beq a p = false := by cases hb : Nat.beq a p with | false => rfl | true => exact absurd (Nat.eq_of_beq_eq_true hb) c2
          rw [this]; rfl
      · rw [if_neg (show ¬ nI k = (3 : Int32) from mi_neT (b := 3) (by omega) (by omega) c1), mf_Model_hasAccess_b46, mf_Model_hasAccess_b47, mi_l1, mi_add]
        have : Nat.beq k 3 = false := by cases hb : Nat.beq k 3 with | false => rfl | true => exact absurd (Nat.eq_of_beq_eq_true hb) c1
        rw [this]; rfl
  intro X hX
  refine mt_Vind (P := fun X => ∀ (b g : Nat) (h : Bool) (t : mw_T), mt_RM 0 t b X → b + mt_sz X ≤ node →
    mf_Model_hasAccess_l10 N R (mt_sz X + g) (nI node) (nI p) (mj_b2 h) (nI b) t = mf_Model_hasAccess_l10 N R g (nI node) (nI p) (mj_b2 (h || mt_ac p X)) (nI (b + mt_sz X)) t) ?_ ?_ ?_ ?_ X hX
  · intro a m c hm b g h t hR hb
    rw [mt_RM_nd, mt_nM] at hR
    rw [mt_sz_nd, mt_sz_0] at hb ⊢
    simp only [mt_sz_0, Nat.add_zero] at hR
    obtain ⟨⟨p1, p2, -⟩, -, -⟩ := hR
    rw [show 0 + 0 + 1 + g = g + 1 by omega, turn b g 1 a h t (by omega) (by omega) (by omega) p1 p2, mt_ac_nd, mt_ac_0, Bool.or_false, Bool.or_false]
  · intro a m c b g h t hR hb
    rw [mt_RM_nd, mt_nM] at hR
    rw [mt_sz_nd, mt_sz_0] at hb ⊢
    simp only [mt_sz_0, Nat.add_zero] at hR
    obtain ⟨⟨p1, p2, -⟩, -, -⟩ := hR
    rw [show 0 + 0 + 1 + g = g + 1 by omega, turn b g 2 a h t (by omega) (by omega) (by omega) p1 p2, mt_ac_nd, mt_ac_0, Bool.or_false, Bool.or_false]
  · intro a m c l ha hm hl ih b g h t hR hb
    rw [mt_RM_nd, mt_nM] at hR
    rw [mt_sz_nd, mt_sz_0] at hb ⊢
    simp only [mt_sz_0, Nat.add_zero] at hR
    obtain ⟨⟨p1, p2, -⟩, hRl, -⟩ := hR
    rw [show mt_sz l + 0 + 1 + g = mt_sz l + (g + 1) by omega, ih b (g + 1) h t hRl (by omega), turn (b + mt_sz l) g 3 a _ t (by omega) (by omega) (fun _ => by omega) p1 p2, mt_ac_nd, mt_ac_0, Bool.or_false]
    rw [Bool.or_assoc, Bool.or_comm (mt_ac p l)]
    rfl
  · intro a m c l r ha hl hr ih1 ih2 b g h t hR hb
    rw [mt_RM_nd, mt_nM] at hR
    rw [mt_sz_nd] at hb ⊢
    obtain ⟨⟨p1, p2, -⟩, hRl, hRr⟩ := hR
    rw [show mt_sz l + mt_sz r + 1 + g = mt_sz l + (mt_sz r + (g + 1)) by omega, ih1 b (mt_sz r + (g + 1)) h t hRl (by omega), ih2 (b + mt_sz l) (g + 1) _ t hRr (by omega), turn (b + mt_sz l + mt_sz r) g 4 a _ t (by omega) (by omega) (fun _ => by omega) p1 p2, mt_ac_nd]
    rw [show Nat.beq 4 3 = false from rfl, Bool.false_and, Bool.or_false, Bool.false_or, Bool.or_assoc, show b + mt_sz l + mt_sz r + 1 = b + (mt_sz l + mt_sz r + 1) by omega]
theorem mq_hasAcc (hN : 170 ≤ N) (b a m c p : Nat) (l r : mt_T) (hp : p < 100) {t : mw_T} (hl : mt_V l) (hr : mt_V r) (hR : mt_RM 0 t b (mt_nd 8 a m c l r)) (hsz : b + mt_sz l + mt_sz r < 170) : mf_Model_hasAccess N R (nI (b + mt_sz l + mt_sz r)) (nI p) t = some (.inl (mj_b2 (mt_ac p l || mt_ac p r)), t) := by
  rw [mt_RM_nd, mt_nM] at hR
  obtain ⟨⟨p1, p2, p3, p4, p5, p6, p7, p8⟩, hRl, hRr⟩ := hR
  have hin : mj_in (nI (b + mt_sz l + mt_sz r)) 170 = true := mi_inT (by omega) (by omega)
  obtain ⟨f, hf⟩ : ∃ f, N = mt_sz l + (mt_sz r + (f + 1)) := ⟨N - (mt_sz l + (mt_sz r + 1)), by omega⟩
  have h1 := mq_hasA (N := N) (R := R) 0 (b + mt_sz l + mt_sz r) p hsz hp rfl l hl b (mt_sz r + (f + 1)) false t hRl (by omega)
  rw [← hf] at h1
  rw [mf_Model_hasAccess, if_pos hin, mi_tn (by omega), p7, show (0 : Int32) = mj_b2 false from rfl, h1, mq_hasA (N := N) (R := R) 0 (b + mt_sz l + mt_sz r) p hsz hp rfl r hr (b + mt_sz l) (f + 1) _ t hRr (by omega), me_Model_hasAccess_l10, mf_Model_hasAccess_l10B, if_neg (mi_ltF (by omega) (by omega)), if_pos (mj_b2_01 _)]
  rfl
end
theorem mi_gs_pl {T : mw_T} {c : Nat} {L : mi_P} (h f : Int32) (hp : mt_pl L) (hg : mi_gs T c 0 0 L) : mi_gs T c h f L := by
  intro k z hz
  obtain ⟨r1, r2, r3, r4⟩ := hg k z hz
  obtain ⟨p1, p2⟩ := hp z (List.mem_of_getElem? hz)
  rw [p1] at r2
  rw [p2] at r3
  refine ⟨r1, ?_, ?_, r4⟩
  · rw [r2, p1]; rfl
  · rw [r3, p2]; rfl
section
variable {N R : Nat}
theorem mt_m_ev (hN : 1400 ≤ N) {X : mt_T} (hX : mt_V X) {t : mw_T} {c : Nat} {F : Bool} (h f : Int32) (hs : mi_sM t c F) (b d : Nat) (hR : mt_RM 0 t b X) (hb : b + mt_sz X ≤ 170) (htk : mt_tk X ≤ 900) (hd : d ≤ 10) : mi_em t c F h f (mt_gV X d) (mf_Model_emitValue N R (nI (b + mt_sz X - 1)) (nL d) t) := by
  have hpos := mt_V_pos hX
  obtain ⟨w1, w2⟩ := mi_wi46 t 0
  have w1' : mi_tq 0 t (mw_wi t 49 46 (nI 0)) := ⟨w1.1, w1.2.1, w1.2.2.1, w1.2.2.2.1, fun i hi => absurd hi (by omega)⟩
  rw [mf_Model_emitValue, show (0 : Int32) = nI 0 from rfl, mi_task w2 (by omega), mi_b]
  have v1 := mi_tk_q (mw_wi t 49 46 (nI 0)) 0 (-1) (nL d) (nI (b + mt_sz X - 1))
  have t1 := mi_tk_ta (mw_wi t 49 46 (nI 0)) 0 (-1) (nL d) (nI (b + mt_sz X - 1))
  generalize mi_tk (mw_wi t 49 46 (nI 0)) 0 (-1) (nL d) (nI (b + mt_sz X - 1)) = T1 at *
  have q1 : mi_tq 0 t T1 := mi_tq_tr w1' v1 (by omega)
  cases F with
  | true =>
    have hs1 := mi_sM_q q1 hs
    obtain ⟨N', rfl⟩ : ∃ N', N = N' + 1 := ⟨N - 1, by omega⟩
    have hend := mi_ev_end (N := N' + 1) (R := R) (T := T1) hs1.1 (N' + 1) (by omega)
    exact ⟨T1, hend, q1.1, ⟨hs1.1, fun hh => by cases hh⟩, fun hh => by cases hh⟩
  | false =>
    have hc148 := (hs.2 rfl).2
    have hRT : mt_RM 0 T1 b X := mt_RM_eq (e := 170) (fun i _ => ⟨⟨(q1.1 51 (by omega) i).1, (q1.1 52 (by omega) i).1, (q1.1 53 (by omega) i).1, (q1.1 54 (by omega) i).1, (q1.1 55 (by omega) i).1⟩, (q1.1 58 (by omega) i).2⟩) _ _ hb hR
    obtain ⟨e1, e2⟩ := mt_m_val (N := N) (R := R) X hX b d 0 c N 1 T1 hRT hb (mi_sM_q q1 hs) t1.2 t1.1 (by omega) (by omega) (by omega) (by omega)
    cases hbd : mi_bd c false (mt_gV X d) with
    | true =>
      obtain ⟨T, f1, f2, f3⟩ := e1 hbd
      refine ⟨T, f1, mi_km_tr q1.1 f2, ?_, fun hh => by rw [hbd] at hh; cases hh⟩
      rw [hbd]
      exact ⟨f3, fun hh => by cases hh⟩
    | false =>
      obtain ⟨T, g', f0, f1, f2, f3, f4, f5, f6, f7⟩ := e2 hbd
      obtain ⟨g2, rfl⟩ : ∃ g2, g' = g2 + 1 := ⟨g' - 1, by omega⟩
      refine ⟨T, ?_, mi_km_tr q1.1 f2, by rw [hbd]; exact f3, fun _ => ⟨mi_gs_pl h f (mt_gV_pl X hX d) f4, fun i hi => ?_⟩⟩
      · rw [f1, me_Model_emitValue_l12, mf_Model_emitValue_l12B, f6, if_neg (show ¬ (0 : Int32) < nI 0 by decide)]
      · obtain ⟨a1, a2, a3, a4⟩ := q1.2.1 i (by omega)
        obtain ⟨b1, b2, b3, b4⟩ := f5 i hi
        exact ⟨b1.trans a1, b2.trans a2, b3.trans a3, b4.trans a4⟩
theorem mt_m_rel (hN : 1400 ≤ N) {l r : mt_T} (hl : mt_V l) (hr : mt_V r) {t : mw_T} {c : Nat} {F : Bool} (h f : Int32) (hs : mi_sM t c F) (b a n m : Nat) (ha : 8 ≤ a) (hb' : a ≤ 13) (hR : mt_RM 0 t b (mt_nd 8 a n m l r)) (hb : b + mt_sz l + mt_sz r < 170) (h56 : t.1 56 (b + mt_sz l + mt_sz r) = h) (h57 : t.1 57 (b + mt_sz l + mt_sz r) = f) (htl : mt_tk l ≤ 900) (htr : mt_tk r ≤ 900) : mi_em t c F h f (mt_gL 8 a n m l r) (mf_Model_emitRelation N R (nI (b + mt_sz l + mt_sz r)) t) := by
  have hR' := hR
  rw [mt_RM_nd, mt_nM] at hR'
  obtain ⟨⟨p1, p2, p3, p4, p5, p6, p7, p8⟩, hRl, hRr⟩ := hR'
  have hpos := mt_V_pos hl
  have hpos2 := mt_V_pos hr
  have hin : mj_in (nI (b + mt_sz l + mt_sz r)) 170 = true := mi_inT (by omega) (by omega)
  have hinr : mj_in (nI (b + mt_sz l + mt_sz r - 1)) 170 = true := mi_inT (by omega) (by omega)
  have keepM : ∀ {T : mw_T}, mi_km t T → mt_eqM 0 170 t T := fun hk i _ => ⟨⟨(hk 51 (by omega) i).1, (hk 52 (by omega) i).1, (hk 53 (by omega) i).1, (hk 54 (by omega) i).1, (hk 55 (by omega) i).1⟩, (hk 58 (by omega) i).2⟩
  have hold : ∀ {T : mw_T}, mi_km t T → ∀ p, p < 100 → mf_Model_hasAccess N R (nI (b + mt_sz l + mt_sz r)) (nI p) T = some (.inl (mj_b2 (mt_ac p l || mt_ac p r)), T) := fun hk p hp => mq_hasAcc (by omega) b a n m p l r hp hl hr (mt_RM_eq (keepM hk) _ _ (by rw [mt_sz_nd]; omega) hR) hb
  -- the comparison
  have cmp : ∀ (T : mw_T) (c' : Nat) (F' : Bool) (g : Nat), mi_km t T → mi_sM T c' F' → mi_em T c' F' h f (mt_gC a l r) (mf_Model_emitRelation_l21 N R (g + 1) (nI (b + mt_sz l + mt_sz r)) (nI 4) T) := by
    intro T c' F' g hk hT
    have q2 : T.1 52 (b + mt_sz l + mt_sz r) = nI a := ((hk 52 (by omega) _).1).trans p2
    have q3 : T.1 53 (b + mt_sz l + mt_sz r) = nI (b + mt_sz l - 1) := ((hk 53 (by omega) _).1).trans (p3 (by omega) (by omega))
    have q4 : T.1 54 (b + mt_sz l + mt_sz r) = nI (b + mt_sz l + mt_sz r - 1) := ((hk 54 (by omega) _).1).trans (p5 (by omega))
    have hRlT : ∀ {U : mw_T}, mi_km t U → mt_RM 0 U b l := fun hk => mt_RM_eq (keepM hk) _ _ (by omega) hRl
    have hRrT : ∀ {U : mw_T}, mi_km t U → mt_RM 0 U (b + mt_sz l) r := fun hk => mt_RM_eq (keepM hk) _ _ (by omega) hRr
    obtain ⟨n1, n2⟩ := mt_isNumM hr (hRrT hk)
    -- the test
    have b140 : ∀ (x4 : Int32) (op : Nat) (w : Int64), (x4 = 0 → op = 50 ∧ w = nL 0) → (¬ x4 = 0 → op = 40 ∧ ∃ v, v < 4294967296 ∧ w = nL v ∧ t.2.1 58 (b + mt_sz l + mt_sz r - 1) = w) → ∀ (U : mw_T) (c2 : Nat) (F2 : Bool), mi_km t U → mi_sM U c2 F2 → mi_em U c2 F2 h f [(op + (a - 8) / 2, if (a - 8) % 2 = 1 then 3 else 2, if (a - 8) % 2 = 1 then 2 else 3, w)] (mf_Model_emitRelation_b140 N R (nI (b + mt_sz l + mt_sz r)) (nI (b + mt_sz l + mt_sz r - 1)) x4 U) := by
      intro x4 op w h40 h50 U c2 F2 hkU hU
      have u2 : U.1 52 (b + mt_sz l + mt_sz r) = nI a := ((hkU 52 (by omega) _).1).trans p2
      have u56 : U.1 56 (b + mt_sz l + mt_sz r) = h := ((hkU 56 (by omega) _).1).trans h56
      have u57 : U.1 57 (b + mt_sz l + mt_sz r) = f := ((hkU 57 (by omega) _).1).trans h57
      have hw : w &&& (4294967295 : Int64) = w := by
        by_cases hx : x4 = 0
        · rw [(h40 hx).2]; exact mi_nmask (by omega)
        · obtain ⟨-, v, hv, rfl, -⟩ := h50 hx; exact mi_nmask hv
      have hop : op = 50 ∨ op = 40 := by
        by_cases hx : x4 = 0
        · exact Or.inl (h40 hx).1
        · exact Or.inr (h50 hx).1
      -- with the labels in order
      have b199 : ∀ (x6 : Int32) (j1 j2 : Nat), (x6 = 0 ∧ j1 = 2 ∧ j2 = 3) ∨ (¬ x6 = 0 ∧ j1 = 3 ∧ j2 = 2) → ∀ q : Nat, q < 60 → (q ≠ 9 ∧ q ≠ 10 ∧ q ≠ 11) → mi_em U c2 F2 h f [(q, j1, j2, w)] (mf_Model_emitRelation_b199 N R (nI (b + mt_sz l + mt_sz r)) x6 w (nI q) U) := by
        intro x6 j1 j2 hj q hq hq2
        rw [mf_Model_emitRelation_b199, if_pos hin, if_pos hin, mi_tn (by omega), u56, u57]
        rcases hj with ⟨hx, rfl, rfl⟩ | ⟨hx, rfl, rfl⟩
        · rw [if_pos hx, mf_Model_emitRelation_b219, if_pos hx, if_pos hin, mi_tn (by omega), u57, mf_Model_emitRelation_b239, mi_bid]
          exact mi_em_1 h f hU q (by omega) 2 3 w w hw (by omega)
        · rw [if_neg hx, mf_Model_emitRelation_b219, if_neg hx, if_pos hin, mi_tn (by omega), u56, mf_Model_emitRelation_b239, mi_bid]
          exact mi_em_1 h f hU q (by omega) 3 2 w w hw (by omega)
      have b164 : ∀ (x5 : Nat) (x6 : Int32) (j1 j2 : Nat), x5 ≤ 5 → (x6 = 0 ∧ j1 = 2 ∧ j2 = 3) ∨ (¬ x6 = 0 ∧ j1 = 3 ∧ j2 = 2) → mi_em U c2 F2 h f [(op + x5 / 2, j1, j2, w)] (mf_Model_emitRelation_b164 N R (nI (b + mt_sz l + mt_sz r)) (nI (b + mt_sz l + mt_sz r - 1)) x4 (nI x5) x6 U) := by
        intro x5 x6 j1 j2 hx5 hj
        have hdiv : ∀ y : Nat, y = 40 ∨ y = 50 → nI y + nI x5 / (2 : Int32) = nI (y + x5 / 2) := by
          intro y hy
          have : x5 = 0 ∨ x5 = 1 ∨ x5 = 2 ∨ x5 = 3 ∨ x5 = 4 ∨ x5 = 5 := by omega
          rcases hy with rfl | rfl <;> rcases this with rfl | rfl | rfl | rfl | rfl | rfl <;> decide
        rw [mf_Model_emitRelation_b164]
        by_cases hx : x4 = 0
        · obtain ⟨rfl, rfl⟩ := h40 hx
          rw [if_pos hx, mf_Model_emitRelation_b179, if_pos hx, show (50 : Int32) = nI 50 from rfl, hdiv 50 (by omega)]
          exact b199 x6 j1 j2 hj _ (by omega) (by omega)
        · obtain ⟨rfl, v, hv, rfl, h58⟩ := h50 hx
          rw [if_neg hx, mf_Model_emitRelation_b179, if_neg hx, if_pos hinr, mi_tn (by omega), (hkU 58 (by omega) _).2, h58, show (40 : Int32) = nI 40 from rfl, hdiv 40 (by omega)]
          exact b199 x6 j1 j2 hj _ (by omega) (by omega)
      rw [mf_Model_emitRelation_b140, if_pos hin, mi_tn (by omega), u2, show nI a - (8 : Int32) = nI (a - 8) from mi_sub (b := 8) ha]
      have : a = 8 ∨ a = 9 ∨ a = 10 ∨ a = 11 ∨ a = 12 ∨ a = 13 := by omega
      rcases this with rfl | rfl | rfl | rfl | rfl | rfl
      · rw [if_neg (by decide)]; exact b164 0 0 2 3 (by omega) (Or.inl ⟨rfl, rfl, rfl⟩)
      · rw [if_pos (by decide)]; exact b164 1 1 3 2 (by omega) (Or.inr ⟨by decide, rfl, rfl⟩)
      · rw [if_neg (by decide)]; exact b164 2 0 2 3 (by omega) (Or.inl ⟨rfl, rfl, rfl⟩)
      · rw [if_pos (by decide)]; exact b164 3 1 3 2 (by omega) (Or.inr ⟨by decide, rfl, rfl⟩)
      · rw [if_neg (by decide)]; exact b164 4 0 2 3 (by omega) (Or.inl ⟨rfl, rfl, rfl⟩)
      · rw [if_pos (by decide)]; exact b164 5 1 3 2 (by omega) (Or.inr ⟨by decide, rfl, rfl⟩)
    rw [me_Model_emitRelation_l21, mf_Model_emitRelation_l21B, if_pos (show (3 : Int32) < nI 4 by decide), if_pos hin, if_pos hin, mi_tn (by omega), q3, q4, if_pos hinr, mi_tn (by omega), mt_gC]
    cases hi : mt_isN r with
    | true =>
      have h58 : t.2.1 58 (b + mt_sz l + mt_sz r - 1) = nL (mt_num r) := ((hk 58 (by omega) _).2).symm.trans (n2 hi)
      rw [if_pos (n1.mpr hi), if_pos (show true = true from rfl), mf_Model_emitRelation_b93, if_neg (show ¬ (1 : Int32) = 0 by decide), mf_Model_emitRelation_b113, if_neg (show ¬ (1 : Int32) = 0 by decide), mf_Model_emitRelation_b125]
      refine mi_em_b (mt_m_ev hN hl h f hT b 0 (hRlT hk) (by omega) htl (by omega)) (fun U hkU hU => ?_)
      rw [if_neg (show ¬ (1 : Int32) = 0 by decide)]
      exact b140 1 40 (nL (mt_num r)) (fun hx => absurd hx (by decide)) (fun _ => ⟨rfl, mt_num r, mt_num_lt hr hi, rfl, h58⟩) U _ _ (mi_km_tr hk hkU) hU
    | false =>
      rw [if_neg (show ¬ T.1 51 (b + mt_sz l + mt_sz r - 1) = (1 : Int32) from fun hh => by have := n1.mp hh; rw [hi] at this; cases this), if_neg (show ¬ (false = true) by decide), mf_Model_emitRelation_b93, if_pos (show (0 : Int32) = 0 from rfl), mt_gT, List.append_assoc]
      refine mi_em_b (mt_m_ev hN hr h f hT (b + mt_sz l) 0 (hRrT hk) (by omega) htr (by omega)) (fun U hkU hU => ?_)
      rw [List.append_assoc]
      refine mi_em_b (mi_em_p (N := N) (R := R) h f hU 11 (by omega) (nL 0) (nL 0) (mi_nmask (by omega)) (fun _ => ⟨0, by omega, rfl⟩)) (fun V hkV hV => ?_)
      rw [mf_Model_emitRelation_b113, if_pos (show (0 : Int32) = 0 from rfl), mf_Model_emitRelation_b125, List.append_assoc]
      have hkV' := mi_km_tr hk (mi_km_tr hkU hkV)
      refine mi_em_b (mt_m_ev hN hl h f hV b 1 (hRlT hkV') (by omega) htl (by omega)) (fun W hkW hW => ?_)
      rw [if_pos (show (0 : Int32) = 0 from rfl)]
      refine mi_em_b (mi_em_p (N := N) (R := R) h f hW 10 (by omega) (nL 0) (nL 0) (mi_nmask (by omega)) (fun _ => ⟨0, by omega, rfl⟩)) (fun Z hkZ hZ => ?_)
      exact b140 0 50 (nL 0) (fun _ => ⟨rfl, rfl⟩) (fun hx => absurd rfl hx) Z _ _ (mi_km_tr hkV' (mi_km_tr hkW hkZ)) hZ
  -- tcp, udp
  have step : ∀ p, p = 2 ∨ p = 3 → ∀ (g : Nat) (L : mi_P) (T : mw_T) (c' : Nat) (F' : Bool), mi_km t T → mi_sM T c' F' → (∀ (U : mw_T) (c2 : Nat) (F2 : Bool), mi_km t U → mi_sM U c2 F2 → mi_em U c2 F2 h f L (mf_Model_emitRelation_l21 N R g (nI (b + mt_sz l + mt_sz r)) (nI (p + 1)) U)) → mi_em T c' F' h f ((if mt_ac p l || mt_ac p r then mt_gP p 0 ++ mt_gW else []) ++ L) (mf_Model_emitRelation_l21 N R (g + 1) (nI (b + mt_sz l + mt_sz r)) (nI p) T) := by
    intro p hp g L T c' F' hk hT hL
    rw [me_Model_emitRelation_l21, mf_Model_emitRelation_l21B, if_neg (show ¬ (3 : Int32) < nI p from mi_ltF (a := 3) (by omega) (by omega)), hold hk p (by omega), mi_b]
    cases hac : (mt_ac p l || mt_ac p r) with
    | false =>
      rw [if_pos (show mj_b2 false = 0 from rfl), if_neg (by decide), mf_Model_emitRelation_b58, mi_l1, mi_add, List.nil_append]
      exact hL T c' F' hk hT
    | true =>
      rw [if_neg (show ¬ mj_b2 true = 0 by decide), if_pos hin, if_pos rfl, mi_tn (by omega), (hk 57 (by omega) _).1, h57, List.append_assoc]
      refine mi_em_b (mt_m_proto (N := N) (R := R) h f hT p 0 (by omega)) (fun U hkU hU => ?_)
      have hkU' := mi_km_tr hk hkU
      rw [if_pos hin, (hkU' 57 (by omega) _).1, h57]
      refine mi_em_b (mt_m_whole (N := N) (R := R) h f hU) (fun V hkV hV => ?_)
      rw [mf_Model_emitRelation_b58, mi_l1, mi_add]
      exact hL V _ _ (mi_km_tr hkU' hkV) hV
  obtain ⟨g, hg⟩ : ∃ g, N = g + 1 + 1 + 1 := ⟨N - 3, by omega⟩
  have b19 : ∀ (T : mw_T) (c' : Nat) (F' : Bool), mi_km t T → mi_sM T c' F' → mi_em T c' F' h f ((if mt_ac 2 l || mt_ac 2 r then mt_gP 2 0 ++ mt_gW else []) ++ ((if mt_ac 3 l || mt_ac 3 r then mt_gP 3 0 ++ mt_gW else []) ++ mt_gC a l r)) (mf_Model_emitRelation_b19 N R (nI (b + mt_sz l + mt_sz r)) T) := by
    intro T c' F' hk hT
    rw [mf_Model_emitRelation_b19]
    have s2 := step 2 (Or.inl rfl) (g + 1 + 1) _ T c' F' hk hT (fun U c2 F2 hkU hU => step 3 (Or.inr rfl) (g + 1) _ U c2 F2 hkU hU (fun V c3 F3 hkV hV => cmp V c3 F3 g hkV hV))
    rw [← hg] at s2
    exact s2
  rw [mt_gL, if_pos rfl, mf_Model_emitRelation, show (1 : Int32) = nI 1 from rfl, hold (mi_km_rf t) 1 (by omega), mi_b]
  cases hac : (mt_ac 1 l || mt_ac 1 r) with
  | false =>
    rw [if_pos (show mj_b2 false = 0 from rfl), if_neg (by decide), List.nil_append]
    exact b19 t c F (mi_km_rf t) hs
  | true =>
    rw [if_neg (show ¬ mj_b2 true = 0 by decide), if_pos hin, if_pos rfl, mi_tn (by omega), h57]
    exact mi_em_b (mt_m_ip (N := N) (R := R) h f hs) (fun U hkU hU => b19 U _ _ hkU hU)
/-- a leaf: where it begins is noted first -/
theorem mt_m_leaf (hN : 1400 ≤ N) (b k a n m : Nat) (l r : mt_T) (hk8 : 8 ≤ k) (hC : mt_C (mt_nd k a n m l r)) {t : mw_T} {c : Nat} {F : Bool} (h f : Int32) (hs : mi_sM t c F) (hR : mt_RM 0 t b (mt_nd k a n m l r)) (hb : b + mt_sz l + mt_sz r < 170) (h56 : t.1 56 (b + mt_sz l + mt_sz r) = h) (h57 : t.1 57 (b + mt_sz l + mt_sz r) = f) (htk : k = 8 → mt_tk l ≤ 900 ∧ mt_tk r ≤ 900) : mi_em (mw_wi t 62 (b + mt_sz l + mt_sz r) (t.1 49 35)) c F h f (mt_gL k a n m l r) (mf_Model_emitLeaf N R (nI (b + mt_sz l + mt_sz r)) t) := by
  have hin : mj_in (nI (b + mt_sz l + mt_sz r)) 170 = true := mi_inT (by omega) (by omega)
  have hs' : mi_sM (mw_wi t 62 (b + mt_sz l + mt_sz r) (t.1 49 35)) c F := hs
  have hR' : mt_RM 0 (mw_wi t 62 (b + mt_sz l + mt_sz r) (t.1 49 35)) b (mt_nd k a n m l r) := mt_RM_eq (t := t) (T := mw_wi t 62 (b + mt_sz l + mt_sz r) (t.1 49 35)) (e := 170) (fun i _ => ⟨⟨rfl, rfl, rfl, rfl, rfl⟩, rfl⟩) _ _ (by rw [mt_sz_nd]; omega) hR
  have h56' : (mw_wi t 62 (b + mt_sz l + mt_sz r) (t.1 49 35)).1 56 (b + mt_sz l + mt_sz r) = h := h56
  have h57' : (mw_wi t 62 (b + mt_sz l + mt_sz r) (t.1 49 35)).1 57 (b + mt_sz l + mt_sz r) = f := h57
  have h51t := hR
  rw [mt_RM_nd, mt_nM] at h51t
  have hR2 := hR'
  rw [mt_RM_nd, mt_nM] at hR2
  obtain ⟨⟨p1, p2, p3, p4, p5, p6, p7, p8⟩, hRl, hRr⟩ := hR2
  have e51 : t.1 51 (b + mt_sz l + mt_sz r) = nI k := h51t.1.1
  have e52 : t.1 52 (b + mt_sz l + mt_sz r) = nI a := h51t.1.2.1
  rw [mf_Model_emitLeaf, if_pos hin, if_pos hin, mi_tn (by omega), e51, e52, h56, h57]
  generalize mw_wi t 62 (b + mt_sz l + mt_sz r) (t.1 49 35) = t' at *
  -- what comes behind the piece
  have b112 : ∀ (T : mw_T), mi_km t' T → k ≠ 8 → mf_Model_emitLeaf_b112 N R (nI (b + mt_sz l + mt_sz r)) T = some (.inl (), T) := by
    intro T hk hne
    have hk100 : k < 100 := by rw [mt_C_nd] at hC; omega
    rw [mf_Model_emitLeaf_b112, if_pos hin, mi_tn (by omega), (hk 51 (by omega) _).1, p1, if_neg (show ¬ nI k = (8 : Int32) from mi_neT (b := 8) (by omega) (by omega) hne)]
  have b96 : ∀ (T : mw_T), mi_km t' T → k ≠ 8 → k ≠ 12 → mf_Model_emitLeaf_b96 N R (nI (b + mt_sz l + mt_sz r)) T = some (.inl (), T) := by
    intro T hk hne hne2
    have hk100 : k < 100 := by rw [mt_C_nd] at hC; omega
    rw [mf_Model_emitLeaf_b96, if_pos hin, mi_tn (by omega), (hk 51 (by omega) _).1, p1, if_neg (show ¬ nI k = (12 : Int32) from mi_neT (b := 12) (by omega) (by omega) hne2), b112 T hk hne]
  have b43 : ∀ (T : mw_T), mi_km t' T → k ≠ 10 → k ≠ 11 → mf_Model_emitLeaf_b43 N R (nI (b + mt_sz l + mt_sz r)) T = mf_Model_emitLeaf_b96 N R (nI (b + mt_sz l + mt_sz r)) T := by
    intro T hk hne hne2
    have hk100 : k < 100 := by rw [mt_C_nd] at hC; omega
    rw [mf_Model_emitLeaf_b43, if_pos hin, mi_tn (by omega), (hk 51 (by omega) _).1, p1, if_neg (show ¬ nI k = (10 : Int32) from mi_neT (b := 10) (by omega) (by omega) hne), if_pos hin, if_neg (show ¬ nI k = (11 : Int32) from mi_neT (b := 11) (by omega) (by omega) hne2)]
  have tail : ∀ {L : mi_P} {X : mw_X Unit} {g : mw_T → mw_X Unit}, mi_em t' c F h f L X → (∀ T, mi_km t' T → g T = some (.inl (), T)) → mi_em t' c F h f L (mw_b X (fun _ T => g T)) := by
    intro L X g hX hg
    obtain ⟨T, rfl, e2, e3, e4⟩ := hX
    rw [mi_b, hg T e2]
    exact ⟨T, rfl, e2, e3, e4⟩
  rw [mt_C_nd] at hC
  rcases hC with ⟨hk', _⟩ | ⟨hk', _⟩ | ⟨rfl, ha, hb', hl, hr⟩ | ⟨rfl, ha, hb', rfl, rfl⟩ | ⟨hk', ha, hm, hc, rfl, rfl⟩
  · omega
  · omega
  · rw [if_neg (show ¬ nI 8 = (9 : Int32) by decide), b43 t' (mi_km_rf t') (by omega) (by omega), mf_Model_emitLeaf_b96, if_pos hin, mi_tn (by omega), p1, if_neg (show ¬ nI 8 = (12 : Int32) by decide), mf_Model_emitLeaf_b112, if_pos hin, mi_tn (by omega), p1, if_pos (show nI 8 = (8 : Int32) from rfl), mi_bid]
    exact mt_m_rel hN hl hr h f hs' b a n m ha hb' hR' hb h56' h57' (htk rfl).1 (htk rfl).2
  · rw [if_pos (show nI 9 = (9 : Int32) from rfl), if_pos hin, if_pos hin, if_pos hin, show mt_gL 9 a n m mt_0 mt_0 = mt_gP a 2 from rfl]
    exact tail (mt_m_proto (N := N) (R := R) h f hs' a 2 (by omega)) (fun T hk => by rw [b43 T hk (by omega) (by omega), b96 T hk (by omega) (by omega)])
  · have hk100 : k < 100 := by omega
    rw [if_neg (show ¬ nI k = (9 : Int32) from mi_neT (b := 9) (by omega) (by omega) (by omega))]
    have addr : k = 10 ∨ k = 11 → mi_em t' c F h f (mt_gP 1 0 ++ mt_gEs k 4 26 30 a (nL n) (mq_nm k m)) (mf_Model_emitLeaf_b65 N R (nI (b + mt_sz mt_0 + mt_sz mt_0)) t') := by
      intro hk2
      rw [mf_Model_emitLeaf_b65, if_pos hin, mi_tn (by omega), h57']
      refine mi_em_b (mt_m_ip (N := N) (R := R) h f hs') (fun U hkU hU => ?_)
      rw [if_pos hin, (hkU 54 (by omega) _).1, p6 (by omega), mq_maskOf hc, mi_bs]
      have hE := mt_m_sides (N := N) (R := R) (by omega) h f hU (b + mt_sz mt_0 + mt_sz mt_0) k a 4 26 30 n m (mq_mask m) (fun _ => rfl) (mi_u_mask _) hb hk' ha hm (by omega) (by omega) (by omega) (by omega) (((hkU 51 (by omega) _).1).trans p1) (((hkU 52 (by omega) _).1).trans p2) (((hkU 58 (by omega) _).2).trans (p8 (by omega))) (((hkU 56 (by omega) _).1).trans h56') (((hkU 57 (by omega) _).1).trans h57')
      obtain ⟨T, e1, e2, e3, e4⟩ := hE
      have e1' : mf_Model_emitSides N R (nI (b + mt_sz mt_0 + mt_sz mt_0)) (4 : Int32) (26 : Int64) (30 : Int64) (mq_mask m) U = some (.inl (), T) := e1
      rw [e1', mi_b, b96 T (mi_km_tr hkU e2) (by omega) (by omega)]
      exact ⟨T, rfl, e2, e3, e4⟩
    rcases hk' with rfl | rfl | rfl
    · rw [mf_Model_emitLeaf_b43, if_pos hin, mi_tn (by omega), p1, if_pos (show nI 10 = (10 : Int32) from rfl)]
      exact addr (by omega)
    · rw [mf_Model_emitLeaf_b43, if_pos hin, mi_tn (by omega), p1, if_neg (show ¬ nI 11 = (10 : Int32) by decide), if_pos hin, if_pos (show nI 11 = (11 : Int32) from rfl)]
      exact addr (by omega)
    · rw [b43 t' (mi_km_rf t') (by omega) (by omega), mf_Model_emitLeaf_b96, if_pos hin, mi_tn (by omega), p1, if_pos (show nI 12 = (12 : Int32) from rfl)]
      exact tail (mt_m_port (N := N) (R := R) (by omega) h f hs' (b + mt_sz mt_0 + mt_sz mt_0) a n m hb ha hm p1 p2 (p8 (by omega)) h56' h57') (fun T hk => b112 T hk (by omega))
end
