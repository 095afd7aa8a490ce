/-! RELATIONS in both programs -/
section
variable (pk : Nat → Nat) (n : Nat)
def mq_wp (p : Nat) : Option Bool := match mq_pr pk n p with
  | some true => mq_wh pk n
  | x => x
def mq_p1 (b1 : Bool) : Option Bool := if b1 then mq_pr pk n 1 else some true
def mq_p2 (b2 : Bool) : Option Bool → Option Bool
  | some true => if b2 then mq_wp pk n 2 else some true
  | x => x
def mq_p3 (b3 : Bool) : Option Bool → Option Bool
  | some true => if b3 then mq_wp pk n 3 else some true
  | x => x
def mq_cmp (a : Nat) (v w : Int64) : Bool := if a = 8 then decide (v = w) else if a = 9 then !decide (v = w) else if a = 10 then decide (w < v) else if a = 11 then !decide (w < v) else if a = 12 then !decide (v < w) else decide (v < w)
def mq_rel (a : Nat) (l r : mt_T) : Option Bool :=
  match mq_p3 pk n (mt_ac 3 l || mt_ac 3 r) (mq_p2 pk n (mt_ac 2 l || mt_ac 2 r) (mq_p1 pk n (mt_ac 1 l || mt_ac 1 r))) with
  | some true => (match mt_vS pk n l with
    | none => none
    | some v => (match mt_vS pk n r with
      | none => none
      | some w => some (mq_cmp a v w)))
  | x => x
end
section
variable {N R : Nat} {pk : Nat → Nat} {n : Nat}
theorem mq_compares (a : Nat) (ha : 8 ≤ a) (hb : a ≤ 13) (v w : Int64) (t : mw_T) : mf_Judge_compares N R (nI (mt_rel a)) v w t = some (.inl (mj_b2 (mq_cmp a v w)), t) := by
  have : a = 8 ∨ a = 9 ∨ a = 10 ∨ a = 11 ∨ a = 12 ∨ a = 13 := by omega
  rcases this with rfl | rfl | rfl | rfl | rfl | rfl
  all_goals simp (decide := true) only [mf_Judge_compares, mt_rel, mq_cmp, mj_b2, ite_true, ite_false, if_true, if_false, decide_eq_true_eq, Bool.not_eq_true', decide_eq_false_iff_not, ite_not]
  all_goals (split <;> rfl)
theorem mq_wprot (hN : 6 ≤ N) {t : mw_T} (h : mi_PktW pk n t) (o p : Nat) (hp : p = 2 ∨ p = 3) : mf_Judge_wholeProtocol N R o (nI (mq_cp p)) t = some (.inl (mv (mq_wp pk n p)), t) := by
  rw [mf_Judge_wholeProtocol, mq_protocol hN h o p (by omega), mi_b, mq_wp]
  cases mq_pr pk n p with
  | none => rfl
  | some b =>
    cases b with
    | false => rfl
    | true => rw [if_pos (show mv (some true) = 1 from rfl), mq_whole hN h, mi_b]
theorem mq_protocols (hN : 6 ≤ N) {t : mw_T} (h : mi_PktW pk n t) (o : Nat) (l r : mt_T) : mf_Judge_protocols N R o (nI (mt_pm l r)) t = some (.inl (mv (mq_p3 pk n (mt_ac 3 l || mt_ac 3 r) (mq_p2 pk n (mt_ac 2 l || mt_ac 2 r) (mq_p1 pk n (mt_ac 1 l || mt_ac 1 r))))), t) := by
  unfold mt_pm
  generalize (mt_ac 1 l || mt_ac 1 r) = b1
  generalize (mt_ac 2 l || mt_ac 2 r) = b2
  generalize (mt_ac 3 l || mt_ac 3 r) = b3
  have bits : (nI ((if b1 = true then 1 else 0) + (if b2 = true then 2 else 0) + (if b3 = true then 4 else 0)) &&& (1 : Int32) = 0 ↔ b1 = false) ∧ (nI ((if b1 = true then 1 else 0) + (if b2 = true then 2 else 0) + (if b3 = true then 4 else 0)) &&& (2 : Int32) = 0 ↔ b2 = false) ∧ (nI ((if b1 = true then 1 else 0) + (if b2 = true then 2 else 0) + (if b3 = true then 4 else 0)) &&& (4 : Int32) = 0 ↔ b3 = false) := by
    cases b1 <;> cases b2 <;> cases b3 <;> decide
  generalize nI ((if b1 = true then 1 else 0) + (if b2 = true then 2 else 0) + (if b3 = true then 4 else 0)) = x at *
  obtain ⟨k1, k2, k3⟩ := bits
  have b31 : ∀ f : Option Bool, mf_Judge_protocols_b31 N R o x (mv f) t = some (.inl (mv (mq_p3 pk n b3 f)), t) := by
    intro f
    rw [mf_Judge_protocols_b31]
    cases f with
    | none => rfl
    | some b =>
      cases b with
      | false => rfl
      | true =>
        rw [if_pos (show mv (some true) = 1 from rfl), mq_p3]
        cases b3 with
        | false => rw [if_pos (k3.mpr rfl), if_neg (by decide)]
        | true => rw [if_neg (fun hh => by have := k3.mp hh; cases this), if_pos rfl, show (4 : Int32) = nI (mq_cp 3) from rfl, mq_wprot hN h o 3 (by omega), mi_b]
  have b14 : ∀ f : Option Bool, mf_Judge_protocols_b14 N R o x (mv f) t = some (.inl (mv (mq_p3 pk n b3 (mq_p2 pk n b2 f))), t) := by
    intro f
    rw [mf_Judge_protocols_b14]
    cases f with
    | none => rw [if_neg (by decide), b31]; rfl
    | some b =>
      cases b with
      | false => rw [if_neg (by decide), b31]; rfl
      | true =>
        rw [if_pos (show mv (some true) = 1 from rfl), mq_p2]
        cases b2 with
        | false => rw [if_pos (k2.mpr rfl), if_neg (by decide), b31]
        | true => rw [if_neg (fun hh => by have := k2.mp hh; cases this), if_pos rfl, show (2 : Int32) = nI (mq_cp 2) from rfl, mq_wprot hN h o 2 (by omega), mi_b, b31]
  rw [mf_Judge_protocols, mq_p1]
  cases b1 with
  | false => rw [if_pos (k1.mpr rfl), if_neg (by decide), show (1 : Int32) = mv (some true) from rfl, b14]
  | true =>
    rw [if_neg (fun hh => by have := k1.mp hh; cases this), if_pos rfl]
    have := mq_protocol (N := N) (R := R) hN h o 1 (by omega)
    rw [show nI (mq_cp 1) = (1 : Int32) from rfl] at this
    rw [this, mi_b, b14]
theorem mq_p3_len {b2 b3 : Bool} {f : Option Bool} (h : mq_p3 pk n b3 (mq_p2 pk n b2 f) = some true) (hb : b2 = true ∨ b3 = true) : 24 ≤ n := by
  have wp : ∀ p, p = 2 ∨ p = 3 → mq_wp pk n p = some true → 24 ≤ n := by
    intro p hp e
    unfold mq_wp at e
    cases hpr : mq_pr pk n p with
    | none => rw [hpr] at e; cases e
    | some b =>
      cases b with
      | false => rw [hpr] at e; cases e
      | true => exact mq_pr_len hp hpr rfl
  cases h2 : mq_p2 pk n b2 f with
  | none => rw [h2] at h; cases h
  | some b =>
    cases b with
    | false => rw [h2] at h; cases h
    | true =>
      rw [h2, mq_p3] at h
      rcases hb with hb | hb
      · subst hb
        cases f with
        | none => cases h2
        | some c =>
          cases c with
          | false => cases h2
          | true =>
            rw [mq_p2, if_pos rfl] at h2
            exact wp 2 (by omega) h2
      · subst hb
        rw [if_pos rfl] at h
        exact wp 3 (by omega) h
theorem mq_jrel (hN : 170 ≤ N) {t : mw_T} (h : mi_PktW pk n t) (o b a m c : Nat) (l r : mt_T) (ha : 8 ≤ a) (hb : a ≤ 13) (hl : mt_V l) (hr : mt_V r) (hR : mt_RC o t b (mt_nd 8 a m c l r)) (hsz : b + mt_sz l + mt_sz r < 160) : ∃ T, mf_Judge_relation N R o (nI (b + mt_sz l + mt_sz r)) t = some (.inl (mv (mq_rel pk n a l r)), T) := by
  rw [mt_RC_nd, mt_nC] at hR
  obtain ⟨⟨p1, p2, p3, p4, p5, p6, p7⟩, hRl, hRr⟩ := hR
  have hpos := mt_V_pos hl
  have hpos2 := mt_V_pos hr
  have hin : mj_in (nI (b + mt_sz l + mt_sz r)) 160 = true := mi_inT (by omega) (by omega)
  rw [mf_Judge_relation, if_pos hin, mi_tn (by omega), (p5 rfl).2, mi_LI, mq_protocols (by omega) h, mi_b, mq_rel]
  cases hp : mq_p3 pk n (mt_ac 3 l || mt_ac 3 r) (mq_p2 pk n (mt_ac 2 l || mt_ac 2 r) (mq_p1 pk n (mt_ac 1 l || mt_ac 1 r))) with
  | none => exact ⟨t, rfl⟩
  | some bb =>
    cases bb with
    | false => exact ⟨t, rfl⟩
    | true =>
      have hlen : ∀ {X : mt_T}, (X = l ∨ X = r) → (mt_ac 2 X = true ∨ mt_ac 3 X = true) → 15 ≤ n := by
        intro X hX hh
        have := mq_p3_len hp (by rcases hX with rfl | rfl <;> rcases hh with hh | hh <;> simp [hh])
        omega
      rw [if_pos (show mv (some true) = 1 from rfl), if_pos hin, (p5 rfl).1]
      simp only
      obtain ⟨f, hf⟩ : ∃ f, N = mt_sz l + (mt_sz r + (f + 1)) := ⟨N - (mt_sz l + (mt_sz r + 1)), by omega⟩
      have IH := mq_cval (N := N) (R := R) (pk := pk) (n := n) (by omega) o (b + mt_sz l + mt_sz r) hsz l hl b (mt_sz r + (f + 1)) t h hRl (hlen (Or.inl rfl)) (by omega)
      rw [← hf] at IH
      cases hvl : mt_vS pk n l with
      | none => rw [hvl] at IH; exact IH
      | some v =>
        rw [hvl] at IH
        obtain ⟨T, e1, e2, e3, e4, e5⟩ := IH
        simp only
        rw [e1]
        have hT : mi_PktW pk n T := by
          obtain ⟨q1, q2, q3, q4⟩ := h
          exact ⟨q1, by rw [e2]; exact q2, by rw [e2]; exact q3, fun j hj => by rw [e2]; exact q4 j hj⟩
        have hRr' : mt_RC o T (b + mt_sz l) r := mt_RC_eq (fun q g1 g2 => ⟨fun i => by rw [e2], fun i => e3 _ _ (by omega)⟩) _ _ hRr
        have IH2 := mq_cval (N := N) (R := R) (pk := pk) (n := n) (by omega) o (b + mt_sz l + mt_sz r) hsz r hr (b + mt_sz l) (f + 1) T hT hRr' (hlen (Or.inr rfl)) (by omega)
        cases hvr : mt_vS pk n r with
        | none => rw [hvr] at IH2; exact IH2
        | some w =>
          rw [hvr] at IH2
          obtain ⟨T2, f1, f2, f3, f4, f5⟩ := IH2
          simp only
          rw [f1]
          have hin2 : mj_in (nI (b + mt_sz l - 1)) 160 = true := mi_inT (by omega) (by omega)
          have hin3 : mj_in (nI (b + mt_sz l + mt_sz r - 1)) 160 = true := mi_inT (by omega) (by omega)
          refine ⟨T2, ?_⟩
          rw [me_Judge_relation_l32, mf_Judge_relation_l32B, if_neg (mi_ltF (by omega) (by omega)), if_pos hin, mi_tn (by omega), f2, e2, p3 (by omega) (by omega), if_pos hin2, if_pos hin, p4 (by omega), if_pos hin3, if_pos hin, mi_tn (by omega), mi_tn (by omega), p2, f4 _ (by omega), e5, f5, show mt_cs 8 a = mt_rel a from rfl, mq_compares a ha hb, mi_bs]
          cases mq_cmp a v w <;> rfl
/-- is there such an access: the reference's look -/
theorem mq_has (d node p : Nat) (hnode : node < 170) (hp : p < 100) (hd : d = 12) : ∀ (X : mt_T), mt_V X → ∀ (b g : Nat) (h : Bool) (t : mw_T), mt_RM d t b X → b + mt_sz X ≤ node →
    mf_Model_hasOld_l10 N R (mt_sz X + g) (nI node) (nI p) (mj_b2 h) (nI b) t = mf_Model_hasOld_l10 N R g (nI node) (nI p) (mj_b2 (h || mt_ac p X)) (nI (b + mt_sz X)) t := by
  subst hd
  -- one turn
  have turn : ∀ (i g k a : Nat) (h : Bool) (t : mw_T), i < node → k < 100 → (k = 3 → a < 100) → t.1 63 i = nI k → t.1 64 i = nI a → mf_Model_hasOld_l10 N R (g + 1) (nI node) (nI p) (mj_b2 h) (nI i) t = mf_Model_hasOld_l10 N R g (nI node) (nI p) (mj_b2 (h || (Nat.beq k 3 && Nat.beq a p))) (nI (i + 1)) t := by
    intro i g k a h t hi hk ha q1 q2
    have hin : mj_in (nI i) 170 = true := mi_inT (by omega) (by omega)
    rw [me_Model_hasOld_l10, mf_Model_hasOld_l10B, if_pos (mi_ltT (by omega) hi)]
    cases h with
    | true =>
      rw [if_neg (show ¬ mj_b2 true = 0 by decide), mf_Model_hasOld_b42, mf_Model_hasOld_b47, mi_l1, mi_add]
      rfl
    | false =>
      rw [if_pos (show mj_b2 false = 0 from rfl), if_pos hin, mi_tn (by omega), q1, q2]
      by_cases c1 : k = 3
      · subst c1
        have ha' := ha rfl
        rw [if_pos (show nI 3 = (3 : Int32) from rfl), if_pos hin]
        by_cases c2 : a = p
        · subst c2
          rw [if_pos rfl, mf_Model_hasOld_b42, mf_Model_hasOld_b47, mi_l1, mi_add, show Nat.beq a a = true from Nat.beq_refl a]
          rfl
        · rw [if_neg (mi_neT (by omega) (by omega) c2), mf_Model_hasOld_b46, mf_Model_hasOld_b47, mi_l1, mi_add]
          have : Nat.beq a p = false := by cases hb : Nat.beq a p with | false => rfl | true => exact absurd (Nat.eq_of_beq_eq_true hb) c2
          rw [this]; rfl
      · rw [if_neg (show ¬ nI k = (3 : Int32) from mi_neT (b := 3) (by omega) (by omega) c1), mf_Model_hasOld_b46, mf_Model_hasOld_b47, mi_l1, mi_add]
        have : Nat.beq k 3 = false := by cases hb : Nat.beq k 3 with | false => rfl | true => exact absurd (Nat.eq_of_beq_eq_true hb) c1
        rw [this]; rfl
  intro X hX
  refine mt_Vind (P := fun X => ∀ (b g : Nat) (h : Bool) (t : mw_T), mt_RM 12 t b X → b + mt_sz X ≤ node →
    mf_Model_hasOld_l10 N R (mt_sz X + g) (nI node) (nI p) (mj_b2 h) (nI b) t = mf_Model_hasOld_l10 N R g (nI node) (nI p) (mj_b2 (h || mt_ac p X)) (nI (b + mt_sz X)) t) ?_ ?_ ?_ ?_ X hX
  · intro a m c hm b g h t hR hb
    rw [mt_RM_nd, mt_nM] at hR
    rw [mt_sz_nd, mt_sz_0] at hb ⊢
    simp only [mt_sz_0, Nat.add_zero] at hR
    obtain ⟨⟨p1, p2, -⟩, -, -⟩ := hR
    rw [show 0 + 0 + 1 + g = g + 1 by omega, turn b g 1 a h t (by omega) (by omega) (by omega) p1 p2, mt_ac_nd, mt_ac_0, Bool.or_false, Bool.or_false]
  · intro a m c b g h t hR hb
    rw [mt_RM_nd, mt_nM] at hR
    rw [mt_sz_nd, mt_sz_0] at hb ⊢
    simp only [mt_sz_0, Nat.add_zero] at hR
    obtain ⟨⟨p1, p2, -⟩, -, -⟩ := hR
    rw [show 0 + 0 + 1 + g = g + 1 by omega, turn b g 2 a h t (by omega) (by omega) (by omega) p1 p2, mt_ac_nd, mt_ac_0, Bool.or_false, Bool.or_false]
  · intro a m c l ha hm hl ih b g h t hR hb
    rw [mt_RM_nd, mt_nM] at hR
    rw [mt_sz_nd, mt_sz_0] at hb ⊢
    simp only [mt_sz_0, Nat.add_zero] at hR
    obtain ⟨⟨p1, p2, -⟩, hRl, -⟩ := hR
    rw [show mt_sz l + 0 + 1 + g = mt_sz l + (g + 1) by omega, ih b (g + 1) h t hRl (by omega), turn (b + mt_sz l) g 3 a _ t (by omega) (by omega) (fun _ => by omega) p1 p2, mt_ac_nd, mt_ac_0, Bool.or_false]
    rw [Bool.or_assoc, Bool.or_comm (mt_ac p l)]
    rfl
  · intro a m c l r ha hl hr ih1 ih2 b g h t hR hb
    rw [mt_RM_nd, mt_nM] at hR
    rw [mt_sz_nd] at hb ⊢
    obtain ⟨⟨p1, p2, -⟩, hRl, hRr⟩ := hR
    rw [show mt_sz l + mt_sz r + 1 + g = mt_sz l + (mt_sz r + (g + 1)) by omega, ih1 b (mt_sz r + (g + 1)) h t hRl (by omega), ih2 (b + mt_sz l) (g + 1) _ t hRr (by omega), turn (b + mt_sz l + mt_sz r) g 4 a _ t (by omega) (by omega) (fun _ => by omega) p1 p2, mt_ac_nd]
    rw [show Nat.beq 4 3 = false from rfl, Bool.false_and, Bool.or_false, Bool.false_or, Bool.or_assoc, show b + mt_sz l + mt_sz r + 1 = b + (mt_sz l + mt_sz r + 1) by omega]
theorem mq_hasOld (hN : 170 ≤ N) (b a m c p : Nat) (l r : mt_T) (hp : p < 100) {t : mw_T} (hl : mt_V l) (hr : mt_V r) (hR : mt_RM 12 t b (mt_nd 8 a m c l r)) (hsz : b + mt_sz l + mt_sz r < 170) : mf_Model_hasOld N R (nI (b + mt_sz l + mt_sz r)) (nI p) t = some (.inl (mj_b2 (mt_ac p l || mt_ac p r)), t) := by
  rw [mt_RM_nd, mt_nM] at hR
  obtain ⟨⟨p1, p2, p3, p4, p5, p6, p7, p8⟩, hRl, hRr⟩ := hR
  have hin : mj_in (nI (b + mt_sz l + mt_sz r)) 170 = true := mi_inT (by omega) (by omega)
  obtain ⟨f, hf⟩ : ∃ f, N = mt_sz l + (mt_sz r + (f + 1)) := ⟨N - (mt_sz l + (mt_sz r + 1)), by omega⟩
  have h1 := mq_has (N := N) (R := R) 12 (b + mt_sz l + mt_sz r) p hsz hp rfl l hl b (mt_sz r + (f + 1)) false t hRl (by omega)
  rw [← hf] at h1
  rw [mf_Model_hasOld, if_pos hin, mi_tn (by omega), p7, show (0 : Int32) = mj_b2 false from rfl, h1, mq_has (N := N) (R := R) 12 (b + mt_sz l + mt_sz r) p hsz hp rfl r hr (b + mt_sz l) (f + 1) _ t hRr (by omega), me_Model_hasOld_l10, mf_Model_hasOld_l10B, if_neg (mi_ltF (by omega) (by omega)), if_pos (mj_b2_01 _)]
  rfl
end
