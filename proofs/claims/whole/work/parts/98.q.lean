/-! .. values of the reference: a stack of tasks -/
theorem mt_isNumM {t : mw_T} {b : Nat} {X : mt_T} (hX : mt_V X) (hR : mt_RM 0 t b X) : (t.1 51 (b + mt_sz X - 1) = (1 : Int32) ↔ mt_isN X = true) ∧ (mt_isN X = true → t.2.1 58 (b + mt_sz X - 1) = nL (mt_num X)) := by
  refine mt_Vind (P := fun X => mt_RM 0 t b X → (t.1 51 (b + mt_sz X - 1) = (1 : Int32) ↔ mt_isN X = true) ∧ (mt_isN X = true → t.2.1 58 (b + mt_sz X - 1) = nL (mt_num X))) ?_ ?_ ?_ ?_ X hX hR
  · intro a n m hn hR
    rw [mt_RM_nd, mt_nM] at hR
    rw [mt_sz_nd, mt_isN_nd, mt_num_nd]
    simp only [mt_sz_0, Nat.add_zero] at hR ⊢
    obtain ⟨⟨p1, p2, p3, p4, p5, p6, p7, p8⟩, -, -⟩ := hR
    rw [show b + (0 + 1) - 1 = b by omega, p1]
    exact ⟨⟨fun _ => rfl, fun _ => rfl⟩, fun _ => p8 (by simp)⟩
  · intro a n m hR
    rw [mt_RM_nd, mt_nM] at hR
    rw [mt_sz_nd, mt_isN_nd, mt_num_nd]
    simp only [mt_sz_0, Nat.add_zero] at hR ⊢
    obtain ⟨⟨p1, -⟩, -, -⟩ := hR
    rw [show b + (0 + 1) - 1 = b by omega, p1]
    exact ⟨⟨fun h => absurd h (by decide), fun h => by cases h⟩, fun h => by cases h⟩
  · intro a n m l ha hn hl ih hR
    rw [mt_RM_nd, mt_nM] at hR
    rw [mt_sz_nd, mt_isN_nd, mt_num_nd]
    simp only [mt_sz_0, Nat.add_zero] at hR ⊢
    obtain ⟨⟨p1, -⟩, -, -⟩ := hR
    rw [show b + (mt_sz l + 1) - 1 = b + mt_sz l by omega, p1]
    exact ⟨⟨fun h => absurd h (by decide), fun h => by cases h⟩, fun h => by cases h⟩
  · intro a n m l r ha hl hr ih1 ih2 hR
    rw [mt_RM_nd, mt_nM] at hR
    rw [mt_sz_nd, mt_isN_nd, mt_num_nd]
    obtain ⟨⟨p1, -⟩, -, -⟩ := hR
    rw [show b + (mt_sz l + mt_sz r + 1) - 1 = b + mt_sz l + mt_sz r by omega, p1]
    exact ⟨⟨fun h => absurd h (by decide), fun h => by cases h⟩, fun h => by cases h⟩
/-- the room that the tasks of a value need -/
def mt_tk : mt_T → Nat
  | .tag k (.tag _ (.tag _ (.tag _ (.append l r)))) => if k = 3 then 7 + mt_tk l else if k = 4 then 5 + (mt_tk l + mt_tk r) else 1
  | _ => 1
def mi_ta (t : mw_T) (i : Nat) (x1 : Int32) (x2 : Int64) (x4 : Int32) : Prop := t.1 80 i = x1 ∧ t.2.1 81 i = x2 ∧ t.1 82 i = x4
def mi_tk (t : mw_T) (k : Nat) (x1 : Int32) (x2 : Int64) (x4 : Int32) : mw_T := mw_wi (mw_wi (mw_wl (mw_wi t 80 k x1) 81 k x2) 82 k x4) 49 46 (nI (k + 1))
/-- states that differ in the tasks alone -/
def mi_tq (k : Nat) (t T : mw_T) : Prop := mi_km t T ∧ mi_gk 1000000 t T ∧ T.1 49 37 = t.1 49 37 ∧ T.1 49 35 = t.1 49 35 ∧ ∀ i, i < k → T.1 80 i = t.1 80 i ∧ T.2.1 81 i = t.2.1 81 i ∧ T.1 82 i = t.1 82 i
theorem mi_tk_q (t : mw_T) (k : Nat) (x1 : Int32) (x2 : Int64) (x4 : Int32) : mi_tq k t (mi_tk t k x1 x2 x4) := by
  refine ⟨fun q hq i => ⟨?_, ?_⟩, fun i hi => ⟨rfl, rfl, rfl, rfl⟩, rfl, rfl, fun i hi => ⟨?_, ?_, ?_⟩⟩
  · unfold mi_tk; rw [mi_wi, if_neg (by omega), mi_wi, if_neg (by omega), mi_wl1, mi_wi, if_neg (by omega)]
  · unfold mi_tk; rw [mi_wi2, mi_wi2, mi_wl, if_neg (by omega), mi_wi2]
  · unfold mi_tk; rw [mi_wi, if_neg (by omega), mi_wi, if_neg (by omega), mi_wl1, mi_wi, if_pos rfl, if_neg (by omega)]
  · unfold mi_tk; rw [mi_wi2, mi_wi2, mi_wl, if_pos rfl, if_neg (by omega), mi_wi2]
  · unfold mi_tk; rw [mi_wi, if_neg (by omega), mi_wi, if_pos rfl, if_neg (by omega), mi_wl1, mi_wi, if_neg (by omega)]
theorem mi_tk_ta (t : mw_T) (k : Nat) (x1 : Int32) (x2 : Int64) (x4 : Int32) : mi_ta (mi_tk t k x1 x2 x4) k x1 x2 x4 ∧ (mi_tk t k x1 x2 x4).1 49 46 = nI (k + 1) := by
  refine ⟨⟨?_, ?_, ?_⟩, ?_⟩
  · unfold mi_tk; rw [mi_wi, if_neg (by omega), mi_wi, if_neg (by omega), mi_wl1, mi_wi, if_pos rfl, if_pos rfl]
  · unfold mi_tk; rw [mi_wi2, mi_wi2, mi_wl, if_pos rfl, if_pos rfl]
  · unfold mi_tk; rw [mi_wi, if_neg (by omega), mi_wi, if_pos rfl, if_pos rfl]
  · unfold mi_tk; rw [mi_wi, if_pos rfl, if_pos rfl]
theorem mi_tq_rf (k : Nat) (t : mw_T) : mi_tq k t t := ⟨mi_km_rf t, fun _ _ => ⟨rfl, rfl, rfl, rfl⟩, rfl, rfl, fun _ _ => ⟨rfl, rfl, rfl⟩⟩
theorem mi_tq_tr {k k' : Nat} {t u T : mw_T} (h : mi_tq k t u) (g : mi_tq k' u T) (hk : k ≤ k') : mi_tq k t T := by
  obtain ⟨h1, h2, h3, h4, h5⟩ := h
  obtain ⟨g1, g2, g3, g4, g5⟩ := g
  refine ⟨mi_km_tr h1 g1, fun i hi => ?_, g3.trans h3, g4.trans h4, fun i hi => ?_⟩
  · obtain ⟨a1, a2, a3, a4⟩ := h2 i hi
    obtain ⟨b1, b2, b3, b4⟩ := g2 i hi
    exact ⟨b1.trans a1, b2.trans a2, b3.trans a3, b4.trans a4⟩
  · obtain ⟨a1, a2, a3⟩ := h5 i hi
    obtain ⟨b1, b2, b3⟩ := g5 i (by omega)
    exact ⟨b1.trans a1, b2.trans a2, b3.trans a3⟩
theorem mi_ta_q {k i : Nat} {t T : mw_T} {x1 : Int32} {x2 : Int64} {x4 : Int32} (h : mi_tq k t T) (hi : i < k) (ha : mi_ta t i x1 x2 x4) : mi_ta T i x1 x2 x4 := ⟨(h.2.2.2.2 i hi).1.trans ha.1, (h.2.2.2.2 i hi).2.1.trans ha.2.1, (h.2.2.2.2 i hi).2.2.trans ha.2.2⟩
theorem mi_sM_q {k c : Nat} {F : Bool} {t T : mw_T} (h : mi_tq k t T) (hs : mi_sM t c F) : mi_sM T c F := ⟨h.2.2.1.trans hs.1, fun hF => ⟨h.2.2.2.1.trans (hs.2 hF).1, (hs.2 hF).2⟩⟩
section
variable {N R : Nat}
theorem mi_task {t : mw_T} {k : Nat} (h : t.1 49 46 = nI k) (hk : k < 900) (x1 : Int32) (x2 : Int64) (x4 : Int32) : mf_Model_task N R x1 x2 x4 t = some (.inl (), mi_tk t k x1 x2 x4) := by
  have hin : mj_in (nI k) 900 = true := mi_inT (by omega) hk
  rw [mf_Model_task, h, if_pos hin, if_pos hin, if_pos hin, mi_tn (by omega), show (1 : Int32) = nI 1 from rfl, mi_add]
  rfl
/-- the loop works the tasks off, down to k of them -/
def mi_ev (N R : Nat) (t : mw_T) (c k : Nat) (L : mi_P) (G g : Nat) : Prop :=
  (mi_bd c false L = true → ∃ T, mf_Model_emitValue_l12 N R G t = some (.inl (), T) ∧ mi_km t T ∧ T.1 49 37 = 1) ∧
  (mi_bd c false L = false → ∃ T g', g ≤ g' ∧ mf_Model_emitValue_l12 N R G t = mf_Model_emitValue_l12 N R g' T ∧ mi_km t T ∧ mi_sM T (c + L.length) false ∧ mi_gs T c 0 0 L ∧ mi_gk c t T ∧ T.1 49 46 = nI k ∧ ∀ i, i < k → T.1 80 i = t.1 80 i ∧ T.2.1 81 i = t.2.1 81 i ∧ T.1 82 i = t.1 82 i)
theorem mi_ev_seq {t : mw_T} {c k k1 : Nat} {A B : mi_P} {G g1 g : Nat} (hk : k ≤ k1) (h1 : mi_ev N R t c k1 A G g1)
    (h2 : ∀ T G', g1 ≤ G' → mi_km t T → mi_sM T (c + A.length) false → T.1 49 46 = nI k1 → (∀ i, i < k1 → T.1 80 i = t.1 80 i ∧ T.2.1 81 i = t.2.1 81 i ∧ T.1 82 i = t.1 82 i) → mi_ev N R T (c + A.length) k B G' g) : mi_ev N R t c k (A ++ B) G g := by
  cases hA : mi_bd c false A with
  | true =>
    refine ⟨fun _ => h1.1 hA, fun hb => ?_⟩
    rw [mi_bd_app, hA] at hb
    cases hb
  | false =>
    obtain ⟨T, g', e1, e2, e3, e4, e5, e6, e7, e8⟩ := h1.2 hA
    obtain ⟨f1, f2⟩ := h2 T g' e1 e3 e4 e7 e8
    refine ⟨fun hb => ?_, fun hb => ?_⟩
    · rw [mi_bd_app, hA] at hb
      obtain ⟨U, u1, u2, u3⟩ := f1 hb
      exact ⟨U, e2.trans u1, mi_km_tr e3 u2, u3⟩
    · rw [mi_bd_app, hA] at hb
      obtain ⟨U, g2, u1, u2, u3, u4, u5, u6, u7, u8⟩ := f2 hb
      refine ⟨U, g2, u1, e2.trans u2, mi_km_tr e3 u3, by rw [List.length_append, ← Nat.add_assoc]; exact u4, fun j z hz => ?_, fun i hi => ?_, u7, fun i hi => ?_⟩
      · by_cases hj : j < A.length
        · rw [List.getElem?_append_left hj] at hz
          obtain ⟨r1, r2, r3, r4⟩ := e5 j z hz
          obtain ⟨v1, v2, v3, v4⟩ := u6 (c + j) (by omega)
          exact ⟨v1.trans r1, v2.trans r2, v3.trans r3, v4.trans r4⟩
        · rw [List.getElem?_append_right (by omega)] at hz
          have := u5 _ z hz
          rw [show c + A.length + (j - A.length) = c + j by omega] at this
          exact this
      · obtain ⟨r1, r2, r3, r4⟩ := e6 i hi
        obtain ⟨v1, v2, v3, v4⟩ := u6 i (by omega)
        exact ⟨v1.trans r1, v2.trans r2, v3.trans r3, v4.trans r4⟩
      · obtain ⟨r1, r2, r3⟩ := e8 i (by omega)
        obtain ⟨v1, v2, v3⟩ := u8 i hi
        exact ⟨v1.trans r1, v2.trans r2, v3.trans r3⟩
/-- a flagged loop ends -/
theorem mi_ev_end {T : mw_T} (h : T.1 49 37 = 1) (g : Nat) (hg : 1 ≤ g) : mf_Model_emitValue_l12 N R g T = some (.inl (), T) := by
  obtain ⟨g', rfl⟩ : ∃ g', g = g' + 1 := ⟨g - 1, by omega⟩
  rw [me_Model_emitValue_l12, mf_Model_emitValue_l12B, if_neg (show ¬ T.1 49 37 = 0 by rw [h]; decide)]
  split <;> rfl
/-- emission by an instruction, then on with the loop -/
theorem mi_ev_em {t t0 : mw_T} {c k : Nat} {z : Nat × Nat × Nat × Int64} {G g : Nat} {X : mw_X Unit} (hq : mi_tq k t t0) (h46 : t0.1 49 46 = nI k) (hg : 1 ≤ g) (hX : mi_em t0 c false 0 0 [z] X) (hlp : mf_Model_emitValue_l12 N R G t = mw_b X (fun _ T => mf_Model_emitValue_l12 N R g T)) (hF : ∀ T, X = some (.inl (), T) → T.1 49 46 = t0.1 49 46 ∧ ∀ i, T.1 80 i = t0.1 80 i ∧ T.2.1 81 i = t0.2.1 81 i ∧ T.1 82 i = t0.1 82 i) : mi_ev N R t c k [z] G g := by
  obtain ⟨T, e1, e2, e3, e4⟩ := hX
  obtain ⟨f1, f2⟩ := hF T e1
  rw [e1, mi_b] at hlp
  refine ⟨fun hb => ?_, fun hb => ?_⟩
  · rw [hb] at e3
    have h37 : T.1 49 37 = 1 := e3.1
    exact ⟨T, by rw [hlp]; exact mi_ev_end h37 g hg, mi_km_tr hq.1 e2, h37⟩
  · obtain ⟨r1, r2⟩ := e4 hb
    rw [hb] at e3
    refine ⟨T, g, Nat.le_refl _, hlp, mi_km_tr hq.1 e2, e3, r1, fun i hi => ?_, by rw [f1, h46], fun i hi => ?_⟩
    · have hc := (e3.2 rfl).2
      obtain ⟨a1, a2, a3, a4⟩ := hq.2.1 i (by omega)
      obtain ⟨b1, b2, b3, b4⟩ := r2 i hi
      exact ⟨b1.trans a1, b2.trans a2, b3.trans a3, b4.trans a4⟩
    · obtain ⟨a1, a2, a3⟩ := hq.2.2.2.2 i hi
      obtain ⟨b1, b2, b3⟩ := f2 i
      exact ⟨b1.trans a1, b2.trans a2, b3.trans a3⟩
/-- plain leaves the tasks alone -/
theorem mi_plain_fr {x1 : Int32} {x2 : Int64} {t T : mw_T} (e : mf_Model_plain N R x1 x2 t = some (.inl (), T)) : T.1 49 46 = t.1 49 46 ∧ ∀ i, T.1 80 i = t.1 80 i ∧ T.2.1 81 i = t.2.1 81 i ∧ T.1 82 i = t.1 82 i := by
  have ag := mi_agF (o := 0) (S := [(49, 46), (80, 1000), (81, 1000), (82, 1000)]) (Or.inl rfl) (mg_Model_plain N R x1 x2 t) e (by decide)
  exact ⟨mi_agI ag (r := 49) (f := 46) (by simp) 46 (Or.inr rfl), fun i => ⟨mi_agI ag (r := 80) (f := 1000) (by simp) i (Or.inl rfl), mi_agL ag (r := 81) (f := 1000) (by simp) i (Or.inl rfl), mi_agI ag (r := 82) (f := 1000) (by simp) i (Or.inl rfl)⟩⟩
/-- the top task taken off -/
theorem mi_wi46 (t : mw_T) (k : Nat) : mi_tq (k + 1) t (mw_wi t 49 46 (nI k)) ∧ (mw_wi t 49 46 (nI k)).1 49 46 = nI k := by
  refine ⟨⟨fun q hq i => ⟨by rw [mi_wi, if_neg (by omega)], rfl⟩, fun i hi => ⟨rfl, rfl, rfl, rfl⟩, rfl, rfl, fun i hi => ⟨rfl, rfl, rfl⟩⟩, rfl⟩
theorem mi_ev_plain {t : mw_T} {c k : Nat} {g op : Nat} {x w : Int64} (hs : mi_sM t c false) (h46 : t.1 49 46 = nI (k + 1)) (hk : k < 900) (ha : mi_ta t k (nI op) x (-1)) (hg : 1 ≤ g) (hop : op < 100) (hw : x &&& (4294967295 : Int64) = w) (hc : op = 9 ∨ op = 10 ∨ op = 11 → ∃ m, m < 100000 ∧ x = nL m) : mi_ev N R t c k [(op, 0, 0, w)] (g + 1) g := by
  obtain ⟨w1, w2⟩ := mi_wi46 t k
  have hin : mj_in (nI k) 900 = true := mi_inT (by omega) hk
  have h37 : t.1 49 37 = 0 := hs.1
  refine mi_ev_em (X := mf_Model_plain N R (nI op) x (mw_wi t 49 46 (nI k))) (mi_tq_tr w1 (mi_tq_rf _ _) (Nat.le_refl _) |> fun h => ⟨h.1, h.2.1, h.2.2.1, h.2.2.2.1, fun i hi => h.2.2.2.2 i (by omega)⟩) w2 hg (mi_em_p 0 0 (mi_sM_q w1 hs) op hop x w hw hc) ?_ (fun T e => mi_plain_fr e)
  rw [me_Model_emitValue_l12, mf_Model_emitValue_l12B, h46, if_pos (show (0 : Int32) < nI (k + 1) from mi_ltT (a := 0) (by omega) (by omega)), if_pos h37, show nI (k + 1) - (1 : Int32) = nI k from mi_sub (b := 1) (by omega), if_pos hin, mi_tn (by omega), ha.1, ha.2.1, if_neg (mi_lt0 op (by omega)), if_pos hin, if_pos hin]
end
