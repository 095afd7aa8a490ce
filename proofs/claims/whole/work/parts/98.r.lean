/-! .. the tasks of a value -/
theorem mt_tk_nd (k a n m : Nat) (l r : mt_T) : mt_tk (mt_nd k a n m l r) = if k = 3 then 7 + mt_tk l else if k = 4 then 5 + (mt_tk l + mt_tk r) else 1 := by rw [mt_nd, mt_tk]
section
variable {N R : Nat}
/-- one turn at a node's task -/
theorem mi_ev_node {t : mw_T} {c k g i d : Nat} (hs : mi_sM t c false) (h46 : t.1 49 46 = nI (k + 1)) (hk : k < 900) (ha : mi_ta t k (-1) (nL d) (nI i)) : mf_Model_emitValue_l12 N R (g + 1) t = mw_b (mf_Model_unfold N R (nI i) (nL d) (mw_wi t 49 46 (nI k))) (fun _ T => mf_Model_emitValue_l12 N R g T) := by
  have hin : mj_in (nI k) 900 = true := mi_inT (by omega) hk
  have h37 : t.1 49 37 = 0 := hs.1
  rw [me_Model_emitValue_l12, mf_Model_emitValue_l12B, h46, if_pos (show (0 : Int32) < nI (k + 1) from mi_ltT (a := 0) (by omega) (by omega)), if_pos h37, show nI (k + 1) - (1 : Int32) = nI k from mi_sub (b := 1) (by omega), if_pos hin, mi_tn (by omega), ha.1, ha.2.1, ha.2.2, if_pos (by decide), if_pos hin, if_pos hin]
/-- tasks laid, then the loop -/
theorem mi_ev_of {t T : mw_T} {c k : Nat} {L : mi_P} {G G' g : Nat} (hq : mi_tq k t T) (hlp : mf_Model_emitValue_l12 N R G t = mf_Model_emitValue_l12 N R G' T) (hc : c ≤ 148) (h : mi_ev N R T c k L G' g) : mi_ev N R t c k L G g := by
  refine ⟨fun hb => ?_, fun hb => ?_⟩
  · obtain ⟨U, u1, u2, u3⟩ := h.1 hb
    exact ⟨U, hlp.trans u1, mi_km_tr hq.1 u2, u3⟩
  · obtain ⟨U, g', u1, u2, u3, u4, u5, u6, u7, u8⟩ := h.2 hb
    refine ⟨U, g', u1, hlp.trans u2, mi_km_tr hq.1 u3, u4, u5, fun i hi => ?_, u7, fun i hi => ?_⟩
    · obtain ⟨a1, a2, a3, a4⟩ := hq.2.1 i (by omega)
      obtain ⟨b1, b2, b3, b4⟩ := u6 i hi
      exact ⟨b1.trans a1, b2.trans a2, b3.trans a3, b4.trans a4⟩
    · obtain ⟨a1, a2, a3⟩ := hq.2.2.2.2 i hi
      obtain ⟨b1, b2, b3⟩ := u8 i hi
      exact ⟨b1.trans a1, b2.trans a2, b3.trans a3⟩
theorem mi_ev_mono {t : mw_T} {c k : Nat} {L : mi_P} {G g0 g : Nat} (h : mi_ev N R t c k L G g0) (hg : g ≤ g0) : mi_ev N R t c k L G g :=
  ⟨h.1, fun hb => by
    obtain ⟨U, g', u1, u2⟩ := h.2 hb
    exact ⟨U, g', Nat.le_trans hg u1, u2⟩⟩
/-- plain tasks, the top first -/
theorem mi_ev_pls : ∀ (Ls : List (Nat × Int64)) (t : mw_T) (c k G g : Nat), mi_sM t c false → t.1 49 46 = nI (k + Ls.length) → k + Ls.length ≤ 900 → (∀ j z, Ls[j]? = some z → mi_ta t (k + (Ls.length - 1 - j)) (nI z.1) z.2 (-1) ∧ z.1 < 100 ∧ z.2 &&& (4294967295 : Int64) = z.2 ∧ (z.1 = 9 ∨ z.1 = 10 ∨ z.1 = 11 → ∃ m, m < 100000 ∧ z.2 = nL m)) → 1 ≤ g → g + Ls.length ≤ G → mi_ev N R t c k (Ls.map (fun z => (z.1, 0, 0, z.2))) G g := by
  intro Ls
  induction Ls with
  | nil =>
    intro t c k G g hs h46 hk hall hg hG
    have hc := (hs.2 rfl).2
    have hb : mi_bd c false [] = false := by simp [mi_bd, mi_okl]; omega
    refine ⟨(fun h => by rw [List.map_nil, hb] at h; cases h), fun _ => ⟨t, G, by simpa using hG, rfl, mi_km_rf t, hs, (fun j z hz => by simp at hz), fun i _ => ⟨rfl, rfl, rfl, rfl⟩, h46, fun i _ => ⟨rfl, rfl, rfl⟩⟩⟩
  | cons z Ls ih =>
    intro t c k G g hs h46 hk hall hg hG
    simp only [List.length_cons] at h46 hk hall hG
    obtain ⟨a1, a2, a3, a4⟩ := hall 0 z rfl
    rw [show k + (Ls.length + 1 - 1 - 0) = k + Ls.length by omega] at a1
    obtain ⟨G', rfl⟩ : ∃ G', G = G' + 1 := ⟨G - 1, by omega⟩
    rw [List.map_cons, show (z.1, 0, 0, z.2) :: Ls.map (fun z => (z.1, 0, 0, z.2)) = [(z.1, 0, 0, z.2)] ++ Ls.map (fun z => (z.1, 0, 0, z.2)) from rfl]
    refine mi_ev_seq (k1 := k + Ls.length) (g1 := G') (by omega) (mi_ev_plain hs h46 (by omega) a1 (by omega) a2 a3 a4) (fun T G2 hG2 hkm hsT h46T hrows => ?_)
    refine ih T _ k G2 g hsT h46T (by omega) (fun j y hy => ?_) hg (by omega)
    obtain ⟨b1, b2, b3, b4⟩ := hall (j + 1) y (by simpa using hy)
    have hj : j < Ls.length := by
      rw [List.getElem?_eq_some_iff] at hy
      exact hy.1
    rw [show k + (Ls.length + 1 - 1 - (j + 1)) = k + (Ls.length - 1 - j) by omega] at b1
    obtain ⟨r1, r2, r3⟩ := hrows (k + (Ls.length - 1 - j)) (by omega)
    exact ⟨⟨r1.trans b1.1, r2.trans b1.2.1, r3.trans b1.2.2⟩, b2, b3, b4⟩
theorem mt_m_val : ∀ (X : mt_T), mt_V X → ∀ (b d k c G g : Nat) (t : mw_T), mt_RM 0 t b X → b + mt_sz X ≤ 170 → mi_sM t c false → t.1 49 46 = nI (k + 1) → mi_ta t k (-1) (nL d) (nI (b + mt_sz X - 1)) → k + mt_tk X ≤ 900 → 1 ≤ g → g + 8 * mt_sz X ≤ G → d + mt_sz X ≤ 1000 → mi_ev N R t c k (mt_gV X d) G g := by
  -- a value on top, seen from a later state
  have sub : ∀ (X : mt_T), mt_V X → (∀ (b d k c G g : Nat) (t : mw_T), mt_RM 0 t b X → b + mt_sz X ≤ 170 → mi_sM t c false → t.1 49 46 = nI (k + 1) → mi_ta t k (-1) (nL d) (nI (b + mt_sz X - 1)) → k + mt_tk X ≤ 900 → 1 ≤ g → g + 8 * mt_sz X ≤ G → d + mt_sz X ≤ 1000 → mi_ev N R t c k (mt_gV X d) G g) →
      ∀ (b d k c G g : Nat) (t T : mw_T), mi_km t T → mt_RM 0 t b X → b + mt_sz X ≤ 170 → mi_sM T c false → T.1 49 46 = nI (k + 1) → mi_ta T k (-1) (nL d) (nI (b + mt_sz X - 1)) → k + mt_tk X ≤ 900 → 1 ≤ g → g + 8 * mt_sz X ≤ G → d + mt_sz X ≤ 1000 → mi_ev N R T c k (mt_gV X d) G g := by
    intro X hX ih b d k c G g t T hk hR hb hs h46 ha htk hg hG hd
    refine ih b d k c G g T (mt_RM_eq (e := 170) (fun i _ => ?_) _ _ hb hR) hb hs h46 ha htk hg hG hd
    exact ⟨⟨(hk 51 (by omega) i).1, (hk 52 (by omega) i).1, (hk 53 (by omega) i).1, (hk 54 (by omega) i).1, (hk 55 (by omega) i).1⟩, (hk 58 (by omega) i).2⟩
  intro X hX
  refine mt_Vind (P := fun X => ∀ (b d k c G g : Nat) (t : mw_T), mt_RM 0 t b X → b + mt_sz X ≤ 170 → mi_sM t c false → t.1 49 46 = nI (k + 1) → mi_ta t k (-1) (nL d) (nI (b + mt_sz X - 1)) → k + mt_tk X ≤ 900 → 1 ≤ g → g + 8 * mt_sz X ≤ G → d + mt_sz X ≤ 1000 → mi_ev N R t c k (mt_gV X d) G g) ?_ ?_ ?_ ?_ X hX
  · intro a n m hn b d k c G g t hR hb hs h46 ha htk hg hG hd
    rw [mt_RM_nd, mt_nM] at hR
    rw [mt_tk_nd, if_neg (by decide), if_neg (by decide)] at htk
    have hz : mt_sz (mt_nd 1 a n m mt_0 mt_0) = 1 := by rw [mt_sz_nd]; rfl
    rw [hz] at hb ha hG hd
    simp only [mt_sz_0, Nat.add_zero] at hR
    obtain ⟨⟨p1, p2, p3, p4, p5, p6, p7, p8⟩, -, -⟩ := hR
    rw [show b + 1 - 1 = b by omega] at ha
    obtain ⟨w1, w2⟩ := mi_wi46 t k
    have hin : mj_in (nI b) 170 = true := mi_inT (by omega) (by omega)
    obtain ⟨G', rfl⟩ : ∃ G', G = G' + 1 := ⟨G - 1, by omega⟩
    have hu : ∀ T : mw_T, mi_km t T → mf_Model_unfold_b61 N R (nI b) (nL d) (-1) 0 T = some (.inl (), T) := by
      intro T hk
      have q : T.1 51 b = nI 1 := ((hk 51 (by omega) b).1).trans p1
      rw [mf_Model_unfold_b61, if_pos hin, mi_tn (by omega), q, if_neg (show ¬ nI 1 = (2 : Int32) by decide), mf_Model_unfold_b77, if_pos hin, mi_tn (by omega), q, if_neg (show ¬ nI 1 = (3 : Int32) by decide), mf_Model_unfold_b93, if_pos hin, mi_tn (by omega), q, if_neg (show ¬ nI 1 = (4 : Int32) by decide)]
    have hX : mf_Model_unfold N R (nI b) (nL d) (mw_wi t 49 46 (nI k)) = mw_b (mf_Model_plain N R (0 : Int32) (nL n) (mw_wi t 49 46 (nI k))) (fun _ T => mf_Model_unfold_b61 N R (nI b) (nL d) (-1) 0 T) := by
      have q : (mw_wi t 49 46 (nI k)).1 51 b = nI 1 := p1
      have q3 : (mw_wi t 49 46 (nI k)).1 53 b = -1 := p4 (by simp)
      have q8 : (mw_wi t 49 46 (nI k)).2.1 58 b = nL n := p8 (by simp)
      rw [mf_Model_unfold, if_pos hin, if_pos hin, mi_tn (by omega), q, if_neg (show ¬ nI 1 = (4 : Int32) by decide), q3, mf_Model_unfold_b37, mf_Model_unfold_b38, if_pos hin, mi_tn (by omega), q, if_pos (show nI 1 = (1 : Int32) from rfl), if_pos hin, q8]
    obtain ⟨T, e1, e2, e3, e4⟩ := mi_em_p (N := N) (R := R) 0 0 (mi_sM_q w1 hs) 0 (by omega) (nL n) (nL n) (mi_nmask hn) (by omega)
    have hfr := mi_plain_fr e1
    rw [mt_gV_nd, if_pos rfl]
    refine mi_ev_mono (g0 := G') (mi_ev_em (z := (0, 0, 0, nL n)) (t0 := mw_wi t 49 46 (nI k)) ⟨w1.1, w1.2.1, w1.2.2.1, w1.2.2.2.1, fun i hi => w1.2.2.2.2 i (by omega)⟩ w2 (by omega) (X := some (.inl (), T)) ⟨T, rfl, e2, e3, e4⟩ ?_ (fun T' e => by cases e; exact hfr)) (by omega)
    have e1' : mf_Model_plain N R (0 : Int32) (nL n) (mw_wi t 49 46 (nI k)) = some (.inl (), T) := e1
    rw [mi_ev_node hs h46 (by omega) ha, hX, e1', mi_b, hu T (mi_km_tr w1.1 e2), mi_b]
  · intro a n m b d k c G g t hR hb hs h46 ha htk hg hG hd
    rw [mt_RM_nd, mt_nM] at hR
    rw [mt_tk_nd, if_neg (by decide), if_neg (by decide)] at htk
    have hz : mt_sz (mt_nd 2 a n m mt_0 mt_0) = 1 := by rw [mt_sz_nd]; rfl
    rw [hz] at hb ha hG hd
    simp only [mt_sz_0, Nat.add_zero] at hR
    obtain ⟨⟨p1, p2, p3, p4, p5, p6, p7, p8⟩, -, -⟩ := hR
    rw [show b + 1 - 1 = b by omega] at ha
    obtain ⟨w1, w2⟩ := mi_wi46 t k
    have hin : mj_in (nI b) 170 = true := mi_inT (by omega) (by omega)
    obtain ⟨G', rfl⟩ : ∃ G', G = G' + 1 := ⟨G - 1, by omega⟩
    have hu : ∀ T : mw_T, mi_km t T → mf_Model_unfold_b77 N R (nI b) (nL d) (-1) 0 T = some (.inl (), T) := by
      intro T hk
      have q : T.1 51 b = nI 2 := ((hk 51 (by omega) b).1).trans p1
      rw [mf_Model_unfold_b77, if_pos hin, mi_tn (by omega), q, if_neg (show ¬ nI 2 = (3 : Int32) by decide), mf_Model_unfold_b93, if_pos hin, mi_tn (by omega), q, if_neg (show ¬ nI 2 = (4 : Int32) by decide)]
    have hX : mf_Model_unfold N R (nI b) (nL d) (mw_wi t 49 46 (nI k)) = mw_b (mf_Model_plain N R (1 : Int32) (0 : Int64) (mw_wi t 49 46 (nI k))) (fun _ T => mf_Model_unfold_b77 N R (nI b) (nL d) (-1) 0 T) := by
      have q : (mw_wi t 49 46 (nI k)).1 51 b = nI 2 := p1
      have q3 : (mw_wi t 49 46 (nI k)).1 53 b = -1 := p4 (by simp)
      rw [mf_Model_unfold, if_pos hin, if_pos hin, mi_tn (by omega), q, if_neg (show ¬ nI 2 = (4 : Int32) by decide), q3, mf_Model_unfold_b37, mf_Model_unfold_b38, if_pos hin, mi_tn (by omega), q, if_neg (show ¬ nI 2 = (1 : Int32) by decide), mf_Model_unfold_b61, if_pos hin, mi_tn (by omega), q, if_pos (show nI 2 = (2 : Int32) from rfl)]
    obtain ⟨T, e1, e2, e3, e4⟩ := mi_em_p (N := N) (R := R) 0 0 (mi_sM_q w1 hs) 1 (by omega) (nL 0) (nL 0) (mi_nmask (by omega)) (by omega)
    have hfr := mi_plain_fr e1
    rw [mt_gV_nd, if_neg (by decide), if_pos rfl]
    refine mi_ev_mono (g0 := G') (mi_ev_em (z := (1, 0, 0, nL 0)) (t0 := mw_wi t 49 46 (nI k)) ⟨w1.1, w1.2.1, w1.2.2.1, w1.2.2.2.1, fun i hi => w1.2.2.2.2 i (by omega)⟩ w2 (by omega) (X := some (.inl (), T)) ⟨T, rfl, e2, e3, e4⟩ ?_ (fun T' e => by cases e; exact hfr)) (by omega)
    have e1' : mf_Model_plain N R (1 : Int32) (0 : Int64) (mw_wi t 49 46 (nI k)) = some (.inl (), T) := e1
    rw [mi_ev_node hs h46 (by omega) ha, hX, e1', mi_b, hu T (mi_km_tr w1.1 e2), mi_b]
  · intro a n m l ha' hn hl ih b d k c G g t hR hb hs h46 ha htk hg hG hd
    rw [mt_RM_nd, mt_nM] at hR
    rw [mt_tk_nd, if_pos rfl] at htk
    have hz : mt_sz (mt_nd 3 a n m l mt_0) = mt_sz l + 1 := by rw [mt_sz_nd]; rfl
    rw [hz] at hb ha hG hd
    simp only [mt_sz_0, Nat.add_zero] at hR
    obtain ⟨⟨p1, p2, p3, p4, p5, p6, p7, p8⟩, hRl, -⟩ := hR
    rw [show b + (mt_sz l + 1) - 1 = b + mt_sz l by omega] at ha
    have hpos := mt_V_pos hl
    have hc148 := (hs.2 rfl).2
    obtain ⟨w1, w2⟩ := mi_wi46 t k
    have w1' : mi_tq k t (mw_wi t 49 46 (nI k)) := ⟨w1.1, w1.2.1, w1.2.2.1, w1.2.2.2.1, fun i hi => w1.2.2.2.2 i (by omega)⟩
    have hin : mj_in (nI (b + mt_sz l)) 170 = true := mi_inT (by omega) (by omega)
    have hinl : mj_in (nI (b + mt_sz l - 1)) 170 = true := mi_inT (by omega) (by omega)
    obtain ⟨n1, n2⟩ := mt_isNumM hl hRl
    obtain ⟨G', rfl⟩ : ∃ G', G = G' + 1 := ⟨G - 1, by omega⟩
    have hb93 : ∀ T : mw_T, mi_km t T → mf_Model_unfold_b93 N R (nI (b + mt_sz l)) (nL d) (nI (b + mt_sz l - 1)) 0 T = some (.inl (), T) := by
      intro T hk
      have q : T.1 51 (b + mt_sz l) = nI 3 := ((hk 51 (by omega) _).1).trans p1
      rw [mf_Model_unfold_b93, if_pos hin, mi_tn (by omega), q, if_neg (show ¬ nI 3 = (4 : Int32) by decide)]
    have hsz : n = 1 ∨ n = 2 ∨ n = 4 := hn
    have hX : mf_Model_unfold N R (nI (b + mt_sz l)) (nL d) (mw_wi t 49 46 (nI k)) = mw_b (mf_Model_unfoldAccess_b26 N R (nI (b + mt_sz l)) (nL d) (nI (n / 2)) (mw_wi t 49 46 (nI k))) (fun _ T => mf_Model_unfold_b93 N R (nI (b + mt_sz l)) (nL d) (nI (b + mt_sz l - 1)) 0 T) := by
      have q : (mw_wi t 49 46 (nI k)).1 51 (b + mt_sz l) = nI 3 := p1
      have q3 : (mw_wi t 49 46 (nI k)).1 53 (b + mt_sz l) = nI (b + mt_sz l - 1) := p3 (by omega) (by omega)
      have q8 : (mw_wi t 49 46 (nI k)).2.1 58 (b + mt_sz l) = nL n := p8 (by simp)
      rw [mf_Model_unfold, if_pos hin, if_pos hin, mi_tn (by omega), q, if_neg (show ¬ nI 3 = (4 : Int32) by decide), q3, mf_Model_unfold_b37, mf_Model_unfold_b38, if_pos hin, mi_tn (by omega), q, if_neg (show ¬ nI 3 = (1 : Int32) by decide), mf_Model_unfold_b61, if_pos hin, mi_tn (by omega), q, if_neg (show ¬ nI 3 = (2 : Int32) by decide), mf_Model_unfold_b77, if_pos hin, mi_tn (by omega), q, if_pos (show nI 3 = (3 : Int32) from rfl), mf_Model_unfoldAccess, if_pos hin, mi_tn (by omega), q8]
      rcases hsz with rfl | rfl | rfl
      · rw [if_neg (show ¬ nL 1 = (4 : Int64) by decide), if_pos hin]; rfl
      · rw [if_neg (show ¬ nL 2 = (4 : Int64) by decide), if_pos hin]; rfl
      · rw [if_pos (show nL 4 = (4 : Int64) from rfl)]; rfl
    have q : (mw_wi t 49 46 (nI k)).1 51 (b + mt_sz l - 1) = t.1 51 (b + mt_sz l - 1) := rfl
    have q3 : (mw_wi t 49 46 (nI k)).1 53 (b + mt_sz l) = nI (b + mt_sz l - 1) := p3 (by omega) (by omega)
    have q2 : (mw_wi t 49 46 (nI k)).1 52 (b + mt_sz l) = nI a := p2
    have hlp := mi_ev_node (N := N) (R := R) (g := G') hs h46 (by omega) ha
    rw [hX] at hlp
    -- the general access
    have gen : mf_Model_unfoldAccess_b26 N R (nI (b + mt_sz l)) (nL d) (nI (n / 2)) (mw_wi t 49 46 (nI k)) = mf_Model_unfoldAccess_b91 N R (nI (b + mt_sz l)) (nL d) (nI (n / 2)) (nI a) (mw_wi t 49 46 (nI k)) → mi_ev N R t c k (mt_gV l d ++ ((if 2 ≤ a then [(11, 0, 0, nL d), (8, 0, 0, nL 14), (9, 0, 0, nL d), (30, 0, 0, nL 0)] else []) ++ [(12, 0, 0, nL 0), (5 + n / 2, 0, 0, nL (mq_b0 a))])) (G' + 1) g := by
      intro e26
      have hb0 : mq_b0 a ≤ 14 := by unfold mq_b0; split <;> omega
      have hn2 : n / 2 ≤ 2 := by omega
      -- the first two tasks
      have e91 : mf_Model_unfoldAccess_b91 N R (nI (b + mt_sz l)) (nL d) (nI (n / 2)) (nI a) (mw_wi t 49 46 (nI k)) = (if nI a < (2 : Int32) then (mf_Model_unfoldAccess_b160 N R (nI (b + mt_sz l)) (nL d) (mi_tk (mi_tk (mw_wi t 49 46 (nI k)) k (nI (5 + n / 2)) (nL (mq_b0 a)) (-1)) (k + 1) (nI 12) (nL 0) (-1))) else (mf_Model_unfoldAccess_b160 N R (nI (b + mt_sz l)) (nL d) (mi_tk (mi_tk (mi_tk (mi_tk (mi_tk (mi_tk (mw_wi t 49 46 (nI k)) k (nI (5 + n / 2)) (nL (mq_b0 a)) (-1)) (k + 1) (nI 12) (nL 0) (-1)) (k + 2) (nI 30) (nL 0) (-1)) (k + 3) (nI 9) (nL d) (-1)) (k + 4) (nI 8) (nL 14) (-1)) (k + 5) (nI 11) (nL d) (-1)))) := by
        have e108 : ∀ y0 : Int64, mf_Model_unfoldAccess_b108 N R (nI (b + mt_sz l)) (nL d) (nI a) y0 ((5 : Int32) + nI (n / 2)) (mw_wi t 49 46 (nI k)) = (if nI a < (2 : Int32) then (mf_Model_unfoldAccess_b160 N R (nI (b + mt_sz l)) (nL d) (mi_tk (mi_tk (mw_wi t 49 46 (nI k)) k (nI (5 + n / 2)) y0 (-1)) (k + 1) (nI 12) (nL 0) (-1))) else (mf_Model_unfoldAccess_b160 N R (nI (b + mt_sz l)) (nL d) (mi_tk (mi_tk (mi_tk (mi_tk (mi_tk (mi_tk (mw_wi t 49 46 (nI k)) k (nI (5 + n / 2)) y0 (-1)) (k + 1) (nI 12) (nL 0) (-1)) (k + 2) (nI 30) (nL 0) (-1)) (k + 3) (nI 9) (nL d) (-1)) (k + 4) (nI 8) (nL 14) (-1)) (k + 5) (nI 11) (nL d) (-1)))) := by
          intro y0
          rw [mf_Model_unfoldAccess_b108, show (5 : Int32) + nI (n / 2) = nI (5 + n / 2) from mi_add 5 _, mi_task w2 (by omega), mi_b, mi_task (mi_tk_ta _ _ _ _ _).2 (by omega), mi_b]
          by_cases h2 : nI a < (2 : Int32)
          · rw [if_pos h2, if_pos h2]; rfl
          · rw [if_neg h2, if_neg h2, mi_task (mi_tk_ta _ _ _ _ _).2 (by omega), mi_b, mi_task (mi_tk_ta _ _ _ _ _).2 (by omega), mi_b, mi_task (mi_tk_ta _ _ _ _ _).2 (by omega), mi_b, mi_task (mi_tk_ta _ _ _ _ _).2 (by omega), mi_b]; rfl
        rw [mf_Model_unfoldAccess_b91, e108, e108]
        by_cases h0 : a = 0
        · subst h0; rw [if_pos (show nI 0 = (0 : Int32) from rfl)]; rfl
        · rw [if_neg (show ¬ nI a = (0 : Int32) from mi_neT (b := 0) (by omega) (by omega) h0), show mq_b0 a = 14 by unfold mq_b0; rw [if_neg h0]]; rfl
      have fin : ∀ (T : mw_T) (k1 : Nat) (Ls : List (Nat × Int64)), mi_tq k t T → k1 = k + Ls.length → k1 + 1 + mt_tk l ≤ 901 → T.1 49 46 = nI (k1 + 1) → mi_ta T k1 (-1) (nL d) (nI (b + mt_sz l - 1)) → (∀ j z, Ls[j]? = some z → mi_ta T (k + (Ls.length - 1 - j)) (nI z.1) z.2 (-1) ∧ z.1 < 100 ∧ z.2 &&& (4294967295 : Int64) = z.2 ∧ (z.1 = 9 ∨ z.1 = 10 ∨ z.1 = 11 → ∃ m, m < 100000 ∧ z.2 = nL m)) → Ls.length ≤ 6 → mf_Model_emitValue_l12 N R (G' + 1) t = mf_Model_emitValue_l12 N R G' T → mi_ev N R t c k (mt_gV l d ++ Ls.map (fun z => (z.1, 0, 0, z.2))) (G' + 1) g := by
        intro T k1 Ls hq hk1 hk2 h46T haT hall h6 hlp'
        refine mi_ev_of hq hlp' hc148 ?_
        refine mi_ev_seq (k1 := k1) (g1 := g + Ls.length) (by omega) (sub l hl ih b d k1 c G' (g + Ls.length) t T hq.1 hRl (by omega) (mi_sM_q hq hs) h46T haT (by omega) (by omega) (by omega) (by omega)) (fun U G2 hG2 hkm hsU h46U hrows => ?_)
        refine mi_ev_pls Ls U _ k G2 g hsU (by rw [h46U, hk1]) (by omega) (fun j z hz => ?_) hg hG2
        obtain ⟨b1, b2, b3, b4⟩ := hall j z hz
        have hj : j < Ls.length := by
          rw [List.getElem?_eq_some_iff] at hz
          exact hz.1
        obtain ⟨r1, r2, r3⟩ := hrows (k + (Ls.length - 1 - j)) (by omega)
        exact ⟨⟨r1.trans b1.1, r2.trans b1.2.1, r3.trans b1.2.2⟩, b2, b3, b4⟩
      rw [e26, e91] at hlp
      have b160 : ∀ (T : mw_T) (k1 : Nat), mi_km t T → T.1 49 46 = nI k1 → k1 < 900 → mf_Model_unfoldAccess_b160 N R (nI (b + mt_sz l)) (nL d) T = some (.inl (), mi_tk T k1 (-1) (nL d) (nI (b + mt_sz l - 1))) := by
        intro T k1 hk h46T hk1
        rw [mf_Model_unfoldAccess_b160, if_pos hin, mi_tn (by omega), (hk 53 (by omega) _).1, p3 (by omega) (by omega), mi_task h46T hk1, mi_b]
      have hz0 : ∀ m, m < 4294967296 → nL m &&& (4294967295 : Int64) = nL m := fun m hm => mi_nmask hm
      by_cases h2 : 2 ≤ a
      · rw [if_neg (show ¬ nI a < (2 : Int32) from mi_ltF (b := 2) (by omega) h2)] at hlp
        -- the six tasks
        have q1 := mi_tk_q (mw_wi t 49 46 (nI k)) k (nI (5 + n / 2)) (nL (mq_b0 a)) (-1)
        have t1 := mi_tk_ta (mw_wi t 49 46 (nI k)) k (nI (5 + n / 2)) (nL (mq_b0 a)) (-1)
        generalize hT1 : mi_tk (mw_wi t 49 46 (nI k)) k (nI (5 + n / 2)) (nL (mq_b0 a)) (-1) = T1 at *
        have q2' := mi_tk_q T1 (k + 1) (nI 12) (nL 0) (-1)
        have t2 := mi_tk_ta T1 (k + 1) (nI 12) (nL 0) (-1)
        generalize hT2 : mi_tk T1 (k + 1) (nI 12) (nL 0) (-1) = T2 at *
        have q3' := mi_tk_q T2 (k + 2) (nI 30) (nL 0) (-1)
        have t3 := mi_tk_ta T2 (k + 2) (nI 30) (nL 0) (-1)
        generalize hT3 : mi_tk T2 (k + 2) (nI 30) (nL 0) (-1) = T3 at *
        have q4' := mi_tk_q T3 (k + 3) (nI 9) (nL d) (-1)
        have t4 := mi_tk_ta T3 (k + 3) (nI 9) (nL d) (-1)
        generalize hT4 : mi_tk T3 (k + 3) (nI 9) (nL d) (-1) = T4 at *
        have q5' := mi_tk_q T4 (k + 4) (nI 8) (nL 14) (-1)
        have t5 := mi_tk_ta T4 (k + 4) (nI 8) (nL 14) (-1)
        generalize hT5 : mi_tk T4 (k + 4) (nI 8) (nL 14) (-1) = T5 at *
        have q6' := mi_tk_q T5 (k + 5) (nI 11) (nL d) (-1)
        have t6 := mi_tk_ta T5 (k + 5) (nI 11) (nL d) (-1)
        generalize hT6 : mi_tk T5 (k + 5) (nI 11) (nL d) (-1) = T6 at *
        have qk6 : mi_tq k t T6 := mi_tq_tr (mi_tq_tr (mi_tq_tr (mi_tq_tr (mi_tq_tr (mi_tq_tr w1' q1 (by omega)) q2' (by omega)) q3' (by omega)) q4' (by omega)) q5' (by omega)) q6' (by omega)
        have q7' := mi_tk_q T6 (k + 6) (-1) (nL d) (nI (b + mt_sz l - 1))
        have t7 := mi_tk_ta T6 (k + 6) (-1) (nL d) (nI (b + mt_sz l - 1))
        rw [b160 T6 (k + 6) qk6.1 t6.2 (by omega), mi_b] at hlp
        generalize hT7 : mi_tk T6 (k + 6) (-1) (nL d) (nI (b + mt_sz l - 1)) = T7 at *
        have qk7 : mi_tq k t T7 := mi_tq_tr qk6 q7' (by omega)
        rw [hb93 T7 qk7.1, mi_b] at hlp
        have r6 := mi_ta_q q7' (by omega) t6.1
        have r5 := mi_ta_q q7' (by omega) (mi_ta_q q6' (by omega) t5.1)
        have r4 := mi_ta_q q7' (by omega) (mi_ta_q q6' (by omega) (mi_ta_q q5' (by omega) t4.1))
        have r3 := mi_ta_q q7' (by omega) (mi_ta_q q6' (by omega) (mi_ta_q q5' (by omega) (mi_ta_q q4' (by omega) t3.1)))
        have r2 := mi_ta_q q7' (by omega) (mi_ta_q q6' (by omega) (mi_ta_q q5' (by omega) (mi_ta_q q4' (by omega) (mi_ta_q q3' (by omega) t2.1))))
        have r1 := mi_ta_q q7' (by omega) (mi_ta_q q6' (by omega) (mi_ta_q q5' (by omega) (mi_ta_q q4' (by omega) (mi_ta_q q3' (by omega) (mi_ta_q q2' (by omega) t1.1)))))
        have := fin T7 (k + 6) [(11, nL d), (8, nL 14), (9, nL d), (30, nL 0), (12, nL 0), (5 + n / 2, nL (mq_b0 a))] qk7 rfl (by omega) t7.2 t7.1 (fun j z hz => by
          rcases j with _ | _ | _ | _ | _ | _ | j
          · simp only [List.getElem?_cons_zero, Option.some.injEq] at hz; subst hz; exact ⟨r6, by simp, hz0 d (by omega), fun _ => ⟨d, by omega, rfl⟩⟩
          · simp only [List.getElem?_cons_succ, List.getElem?_cons_zero, Option.some.injEq] at hz; subst hz; exact ⟨r5, by simp, hz0 14 (by omega), by simp⟩
          · simp only [List.getElem?_cons_succ, List.getElem?_cons_zero, Option.some.injEq] at hz; subst hz; exact ⟨r4, by simp, hz0 d (by omega), fun _ => ⟨d, by omega, rfl⟩⟩
          · simp only [List.getElem?_cons_succ, List.getElem?_cons_zero, Option.some.injEq] at hz; subst hz; exact ⟨r3, by simp, hz0 0 (by omega), by simp⟩
          · simp only [List.getElem?_cons_succ, List.getElem?_cons_zero, Option.some.injEq] at hz; subst hz; exact ⟨r2, by simp, hz0 0 (by omega), by simp⟩
          · simp only [List.getElem?_cons_succ, List.getElem?_cons_zero, Option.some.injEq] at hz; subst hz; exact ⟨r1, by simp only; omega, hz0 _ (by omega), fun hh => by simp only at hh; omega⟩
          · simp at hz) (by simp) hlp
        rw [if_pos h2]
        exact this
      · rw [if_pos (show nI a < (2 : Int32) from mi_ltT (b := 2) (by omega) (by omega))] at hlp
        have q1 := mi_tk_q (mw_wi t 49 46 (nI k)) k (nI (5 + n / 2)) (nL (mq_b0 a)) (-1)
        have t1 := mi_tk_ta (mw_wi t 49 46 (nI k)) k (nI (5 + n / 2)) (nL (mq_b0 a)) (-1)
        generalize hT1 : mi_tk (mw_wi t 49 46 (nI k)) k (nI (5 + n / 2)) (nL (mq_b0 a)) (-1) = T1 at *
        have q2' := mi_tk_q T1 (k + 1) (nI 12) (nL 0) (-1)
        have t2 := mi_tk_ta T1 (k + 1) (nI 12) (nL 0) (-1)
        generalize hT2 : mi_tk T1 (k + 1) (nI 12) (nL 0) (-1) = T2 at *
        have qk2 : mi_tq k t T2 := mi_tq_tr (mi_tq_tr w1' q1 (by omega)) q2' (by omega)
        have q7' := mi_tk_q T2 (k + 2) (-1) (nL d) (nI (b + mt_sz l - 1))
        have t7 := mi_tk_ta T2 (k + 2) (-1) (nL d) (nI (b + mt_sz l - 1))
        rw [b160 T2 (k + 2) qk2.1 t2.2 (by omega), mi_b] at hlp
        generalize hT7 : mi_tk T2 (k + 2) (-1) (nL d) (nI (b + mt_sz l - 1)) = T7 at *
        have qk7 : mi_tq k t T7 := mi_tq_tr qk2 q7' (by omega)
        rw [hb93 T7 qk7.1, mi_b] at hlp
        have r2 := mi_ta_q q7' (by omega) t2.1
        have r1 := mi_ta_q q7' (by omega) (mi_ta_q q2' (by omega) t1.1)
        have := fin T7 (k + 2) [(12, nL 0), (5 + n / 2, nL (mq_b0 a))] qk7 rfl (by omega) t7.2 t7.1 (fun j z hz => by
          rcases j with _ | _ | j
          · simp only [List.getElem?_cons_zero, Option.some.injEq] at hz; subst hz; exact ⟨r2, by simp, hz0 0 (by omega), by simp⟩
          · simp only [List.getElem?_cons_succ, List.getElem?_cons_zero, Option.some.injEq] at hz; subst hz; exact ⟨r1, by simp only; omega, hz0 _ (by omega), fun hh => by simp only at hh; omega⟩
          · simp at hz) (by simp) hlp
        rw [if_neg h2, List.nil_append]
        exact this
    rw [mt_gV_nd, if_neg (by decide), if_neg (by decide), if_pos rfl]
    by_cases hi : mt_isN l = true ∧ a ≤ 1
    · rw [if_pos hi]
      -- at once
      have hk1 : (mw_wi t 49 46 (nI k)).1 51 (b + mt_sz l - 1) = (1 : Int32) := n1.mpr hi.1
      have h58 : (mw_wi t 49 46 (nI k)).2.1 58 (b + mt_sz l - 1) = nL (mt_num l) := n2 hi.1
      have hnum := mt_num_lt hl hi.1
      have e26 : mf_Model_unfoldAccess_b26 N R (nI (b + mt_sz l)) (nL d) (nI (n / 2)) (mw_wi t 49 46 (nI k)) = mf_Model_plain N R (nI (2 + n / 2)) (nL (mt_num l + mq_b0 a)) (mw_wi t 49 46 (nI k)) := by
        rw [mf_Model_unfoldAccess_b26, if_pos hin, if_pos hin, mi_tn (by omega), q3, if_pos hinl, mi_tn (by omega), if_pos hk1, q2, if_pos (show nI a < (2 : Int32) from mi_ltT (b := 2) (by omega) (by omega)), if_pos hin, if_pos hinl, h58]
        have hadd : (2 : Int32) + nI (n / 2) = nI (2 + n / 2) := mi_add 2 _
        have : a = 0 ∨ a = 1 := by omega
        rcases this with rfl | rfl
        · rw [if_neg (show ¬ nI 0 = (1 : Int32) by decide), mf_Model_unfoldAccess_b86, mi_bid, hadd, show (0 : Int64) = nL 0 from rfl, mi_addL]; rfl
        · rw [if_pos (show nI 1 = (1 : Int32) from rfl), mf_Model_unfoldAccess_b86, mi_bid, hadd, show (14 : Int64) = nL 14 from rfl, mi_addL]; rfl
      obtain ⟨T, e1, e2, e3, e4⟩ := mi_em_p (N := N) (R := R) 0 0 (mi_sM_q w1 hs) (2 + n / 2) (by omega) (nL (mt_num l + mq_b0 a)) (nL ((mq_b0 a + mt_num l) % 4294967296)) (by rw [mi_maskL, Nat.add_comm]) (by omega)
      have hfr := mi_plain_fr e1
      refine mi_ev_mono (g0 := G') (mi_ev_em (t0 := mw_wi t 49 46 (nI k)) w1' w2 (by omega) (X := some (.inl (), T)) ⟨T, rfl, e2, e3, e4⟩ ?_ (fun T' e => by cases e; exact hfr)) (by omega)
      rw [hlp, e26, e1, mi_b, hb93 T (mi_km_tr w1.1 e2), mi_b]
    · rw [if_neg hi]
      refine gen ?_
      rw [mf_Model_unfoldAccess_b26, if_pos hin, if_pos hin, mi_tn (by omega), q3, if_pos hinl, mi_tn (by omega), q2]
      by_cases hk1 : (mw_wi t 49 46 (nI k)).1 51 (b + mt_sz l - 1) = (1 : Int32)
      · rw [if_pos hk1, if_neg (show ¬ nI a < (2 : Int32) from mi_ltF (b := 2) (by omega) (by
          have := n1.mp hk1
          by_cases h : a ≤ 1
          · exact absurd ⟨this, h⟩ hi
          · omega))]
      · rw [if_neg hk1]
  · intro a n m l r ha' hl hr ih1 ih2 b d k c G g t hR hb hs h46 ha htk hg hG hd
    rw [mt_RM_nd, mt_nM] at hR
    rw [mt_tk_nd, if_neg (by decide), if_pos rfl] at htk
    rw [mt_sz_nd] at hb ha hG hd
    obtain ⟨⟨p1, p2, p3, p4, p5, p6, p7, p8⟩, hRl, hRr⟩ := hR
    rw [show b + (mt_sz l + mt_sz r + 1) - 1 = b + mt_sz l + mt_sz r by omega] at ha
    have hpos := mt_V_pos hl
    have hpos2 := mt_V_pos hr
    have hc148 := (hs.2 rfl).2
    obtain ⟨w1, w2⟩ := mi_wi46 t k
    have w1' : mi_tq k t (mw_wi t 49 46 (nI k)) := ⟨w1.1, w1.2.1, w1.2.2.1, w1.2.2.2.1, fun i hi => w1.2.2.2.2 i (by omega)⟩
    have hin : mj_in (nI (b + mt_sz l + mt_sz r)) 170 = true := mi_inT (by omega) (by omega)
    have hinr : mj_in (nI (b + mt_sz l + mt_sz r - 1)) 170 = true := mi_inT (by omega) (by omega)
    obtain ⟨n1, n2⟩ := mt_isNumM hr hRr
    obtain ⟨G', rfl⟩ : ∃ G', G = G' + 1 := ⟨G - 1, by omega⟩
    have q1 : (mw_wi t 49 46 (nI k)).1 51 (b + mt_sz l + mt_sz r) = nI 4 := p1
    have q2 : (mw_wi t 49 46 (nI k)).1 52 (b + mt_sz l + mt_sz r) = nI a := p2
    have q3 : (mw_wi t 49 46 (nI k)).1 53 (b + mt_sz l + mt_sz r) = nI (b + mt_sz l - 1) := p3 (by omega) (by omega)
    have q4 : (mw_wi t 49 46 (nI k)).1 54 (b + mt_sz l + mt_sz r) = nI (b + mt_sz l + mt_sz r - 1) := p5 (by omega)
    have hlp := mi_ev_node (N := N) (R := R) (g := G') hs h46 (by omega) ha
    have hz0 : ∀ m, m < 4294967296 → nL m &&& (4294967295 : Int64) = nL m := fun m hm => mi_nmask hm
    have h38 : ∀ y0 : Int32, mf_Model_unfold_b38 N R (nI (b + mt_sz l + mt_sz r)) (nL d) (nI (b + mt_sz l - 1)) y0 (mw_wi t 49 46 (nI k)) = mf_Model_unfold_b93 N R (nI (b + mt_sz l + mt_sz r)) (nL d) (nI (b + mt_sz l - 1)) y0 (mw_wi t 49 46 (nI k)) := by
      intro y0
      rw [mf_Model_unfold_b38, if_pos hin, mi_tn (by omega), q1, if_neg (show ¬ nI 4 = (1 : Int32) by decide), mf_Model_unfold_b61, if_pos hin, mi_tn (by omega), q1, if_neg (show ¬ nI 4 = (2 : Int32) by decide), mf_Model_unfold_b77, if_pos hin, mi_tn (by omega), q1, if_neg (show ¬ nI 4 = (3 : Int32) by decide)]
    rw [mf_Model_unfold, if_pos hin, if_pos hin, mi_tn (by omega), q1, if_pos (show nI 4 = (4 : Int32) from rfl), if_pos hin, q3, q4, if_pos hinr, mi_tn (by omega), mf_Model_unfold_b37, h38, h38] at hlp
    rw [mt_gV_nd, if_neg (by decide), if_neg (by decide), if_neg (by decide)]
    cases hi : mt_isN r with
    | true =>
      have hk1 : (mw_wi t 49 46 (nI k)).1 51 (b + mt_sz l + mt_sz r - 1) = (1 : Int32) := n1.mpr hi
      have h58 : (mw_wi t 49 46 (nI k)).2.1 58 (b + mt_sz l + mt_sz r - 1) = nL (mt_num r) := n2 hi
      have hnum := mt_num_lt hr hi
      rw [if_pos hk1, mf_Model_unfold_b93, if_pos hin, mi_tn (by omega), q1, if_pos (show nI 4 = (4 : Int32) from rfl), if_pos rfl, if_pos hin, q2, mf_Model_unfold_b131, if_pos rfl, if_pos hin, mi_tn (by omega), q4, if_pos hinr, mi_tn (by omega), h58, show (20 : Int32) + nI a = nI (20 + a) from mi_add 20 a, mf_Model_unfold_b151, mi_task w2 (by omega), mi_b, if_pos rfl, mf_Model_unfold_b168, if_pos rfl, mf_Model_unfold_b182, mi_task (mi_tk_ta _ _ _ _ _).2 (by omega), mi_b, if_pos rfl, mf_Model_unfold_b200, if_pos rfl, mi_b] at hlp
      have v1 := mi_tk_q (mw_wi t 49 46 (nI k)) k (nI (20 + a)) (nL (mt_num r)) (-1)
      have t1 := mi_tk_ta (mw_wi t 49 46 (nI k)) k (nI (20 + a)) (nL (mt_num r)) (-1)
      generalize hT1 : mi_tk (mw_wi t 49 46 (nI k)) k (nI (20 + a)) (nL (mt_num r)) (-1) = T1 at *
      have v2 := mi_tk_q T1 (k + 1) (-1) (nL d) (nI (b + mt_sz l - 1))
      have t2 := mi_tk_ta T1 (k + 1) (-1) (nL d) (nI (b + mt_sz l - 1))
      generalize hT2 : mi_tk T1 (k + 1) (-1) (nL d) (nI (b + mt_sz l - 1)) = T2 at *
      have qk2 : mi_tq k t T2 := mi_tq_tr (mi_tq_tr w1' v1 (by omega)) v2 (by omega)
      have r1 := mi_ta_q v2 (by omega) t1.1
      rw [if_pos rfl]
      refine mi_ev_of qk2 hlp hc148 ?_
      refine mi_ev_seq (k1 := k + 1) (g1 := g + 1) (by omega) (sub l hl ih1 b d (k + 1) c G' (g + 1) t T2 qk2.1 hRl (by omega) (mi_sM_q qk2 hs) t2.2 t2.1 (by omega) (by omega) (by omega) (by omega)) (fun U G2 hG2 hkm hsU h46U hrows => ?_)
      obtain ⟨s1, s2, s3⟩ := hrows k (by omega)
      obtain ⟨G3, rfl⟩ : ∃ G3, G2 = G3 + 1 := ⟨G2 - 1, by omega⟩
      exact mi_ev_mono (mi_ev_plain hsU h46U (by omega) ⟨s1.trans r1.1, s2.trans r1.2.1, s3.trans r1.2.2⟩ (by omega) (by omega) (hz0 _ hnum) (by omega)) (by omega)
    | false =>
      have hk1 : ¬ (mw_wi t 49 46 (nI k)).1 51 (b + mt_sz l + mt_sz r - 1) = (1 : Int32) := fun hh => by
        have := n1.mp hh
        rw [hi] at this
        cases this
      have hd1 : nL d + (1 : Int64) = nL (d + 1) := mi_addL d 1
      rw [if_neg hk1, mf_Model_unfold_b93, if_pos hin, mi_tn (by omega), q1, if_pos (show nI 4 = (4 : Int32) from rfl), if_neg (by decide), if_pos hin, q2, mf_Model_unfold_b131, if_neg (by decide), show (30 : Int32) + nI a = nI (30 + a) from mi_add 30 a, mf_Model_unfold_b151, mi_task w2 (by omega), mi_b, if_neg (by decide), mi_task (mi_tk_ta _ _ _ _ _).2 (by omega), mi_b, mf_Model_unfold_b168, if_neg (by decide), mf_Model_unfold_b182, mi_task (mi_tk_ta _ _ _ _ _).2 (by omega), mi_b, if_neg (by decide), mi_task (mi_tk_ta _ _ _ _ _).2 (by omega), mi_b, mf_Model_unfold_b200, if_neg (by decide), if_pos hin, mi_tn (by omega), hd1] at hlp
      have v1 := mi_tk_q (mw_wi t 49 46 (nI k)) k (nI (30 + a)) (nL 0) (-1)
      have t1 := mi_tk_ta (mw_wi t 49 46 (nI k)) k (nI (30 + a)) (nL 0) (-1)
      rw [show (0 : Int64) = nL 0 from rfl, show (10 : Int32) = nI 10 from rfl, show (11 : Int32) = nI 11 from rfl] at hlp
      generalize hT1 : mi_tk (mw_wi t 49 46 (nI k)) k (nI (30 + a)) (nL 0) (-1) = T1 at *
      have v2 := mi_tk_q T1 (k + 1) (nI 10) (nL d) (-1)
      have t2 := mi_tk_ta T1 (k + 1) (nI 10) (nL d) (-1)
      generalize hT2 : mi_tk T1 (k + 1) (nI 10) (nL d) (-1) = T2 at *
      have v3 := mi_tk_q T2 (k + 2) (-1) (nL (d + 1)) (nI (b + mt_sz l - 1))
      have t3 := mi_tk_ta T2 (k + 2) (-1) (nL (d + 1)) (nI (b + mt_sz l - 1))
      rw [show k + 1 + 1 = k + 2 from rfl] at hlp
      generalize hT3 : mi_tk T2 (k + 2) (-1) (nL (d + 1)) (nI (b + mt_sz l - 1)) = T3 at *
      have v4 := mi_tk_q T3 (k + 3) (nI 11) (nL d) (-1)
      have t4 := mi_tk_ta T3 (k + 3) (nI 11) (nL d) (-1)
      rw [show k + 2 + 1 = k + 3 from rfl] at hlp
      generalize hT4 : mi_tk T3 (k + 3) (nI 11) (nL d) (-1) = T4 at *
      have qk4 : mi_tq k t T4 := mi_tq_tr (mi_tq_tr (mi_tq_tr (mi_tq_tr w1' v1 (by omega)) v2 (by omega)) v3 (by omega)) v4 (by omega)
      rw [(qk4.1 54 (by omega) _).1, p5 (by omega), mi_task t4.2 (by omega), mi_b, mi_b] at hlp
      have v5 := mi_tk_q T4 (k + 4) (-1) (nL d) (nI (b + mt_sz l + mt_sz r - 1))
      have t5 := mi_tk_ta T4 (k + 4) (-1) (nL d) (nI (b + mt_sz l + mt_sz r - 1))
      rw [show k + 3 + 1 = k + 4 from rfl] at hlp
      generalize hT5 : mi_tk T4 (k + 4) (-1) (nL d) (nI (b + mt_sz l + mt_sz r - 1)) = T5 at *
      have qk5 : mi_tq k t T5 := mi_tq_tr qk4 v5 (by omega)
      have r4 := mi_ta_q v5 (by omega) t4.1
      have r3 := mi_ta_q v5 (by omega) (mi_ta_q v4 (by omega) t3.1)
      have r2 := mi_ta_q v5 (by omega) (mi_ta_q v4 (by omega) (mi_ta_q v3 (by omega) t2.1))
      have r1 := mi_ta_q v5 (by omega) (mi_ta_q v4 (by omega) (mi_ta_q v3 (by omega) (mi_ta_q v2 (by omega) t1.1)))
      rw [if_neg (by decide)]
      refine mi_ev_of qk5 hlp hc148 ?_
      refine mi_ev_seq (k1 := k + 4) (g1 := g + 8 * mt_sz l + 3) (by omega) (sub r hr ih2 (b + mt_sz l) d (k + 4) c G' (g + 8 * mt_sz l + 3) t T5 qk5.1 hRr (by omega) (mi_sM_q qk5 hs) t5.2 t5.1 (by omega) (by omega) (by omega) (by omega)) (fun U G2 hG2 hkm hsU h46U hrows => ?_)
      obtain ⟨s1, s2, s3⟩ := hrows (k + 3) (by omega)
      obtain ⟨G3, rfl⟩ : ∃ G3, G2 = G3 + 1 := ⟨G2 - 1, by omega⟩
      refine mi_ev_seq (k1 := k + 3) (g1 := G3) (by omega) (mi_ev_plain hsU h46U (by omega) ⟨s1.trans r4.1, s2.trans r4.2.1, s3.trans r4.2.2⟩ (by omega) (by omega) (hz0 d (by omega)) (fun _ => ⟨d, by omega, rfl⟩)) (fun V G4 hG4 hkmV hsV h46V hrowsV => ?_)
      obtain ⟨x1, x2, x3⟩ := hrows (k + 2) (by omega)
      obtain ⟨y1, y2, y3⟩ := hrowsV (k + 2) (by omega)
      refine mi_ev_seq (k1 := k + 2) (g1 := g + 2) (by omega) (sub l hl ih1 b (d + 1) (k + 2) _ G4 (g + 2) t V (mi_km_tr qk5.1 (mi_km_tr hkm hkmV)) hRl (by omega) hsV h46V ⟨(y1.trans x1).trans r3.1, (y2.trans x2).trans r3.2.1, (y3.trans x3).trans r3.2.2⟩ (by omega) (by omega) (by omega) (by omega)) (fun W G5 hG5 hkmW hsW h46W hrowsW => ?_)
      have row : ∀ i, i < k + 2 → ∀ {a1 : Int32} {a2 : Int64} {a3 : Int32}, mi_ta T5 i a1 a2 a3 → mi_ta W i a1 a2 a3 := by
        intro i hi a1 a2 a3 hta
        obtain ⟨x1, x2, x3⟩ := hrows i (by omega)
        obtain ⟨y1, y2, y3⟩ := hrowsV i (by omega)
        obtain ⟨z1, z2, z3⟩ := hrowsW i (by omega)
        exact ⟨((z1.trans y1).trans x1).trans hta.1, ((z2.trans y2).trans x2).trans hta.2.1, ((z3.trans y3).trans x3).trans hta.2.2⟩
      have := mi_ev_pls (N := N) (R := R) [(10, nL d), (30 + a, nL 0)] W _ k G5 g hsW h46W (by simp; omega) (fun j z hz => by
          rcases j with _ | _ | j
          · simp only [List.getElem?_cons_zero, Option.some.injEq] at hz; subst hz; exact ⟨row (k + 1) (by omega) r2, by simp, hz0 d (by omega), fun _ => ⟨d, by omega, rfl⟩⟩
          · simp only [List.getElem?_cons_succ, List.getElem?_cons_zero, Option.some.injEq] at hz; subst hz; exact ⟨row k (by omega) r1, by simp only; omega, hz0 0 (by omega), fun hh => by simp only at hh; omega⟩
          · simp at hz) hg (by simpa using hG5)
      exact this
end
