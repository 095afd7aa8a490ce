/-! THE GOAL: the law's run from its start to its end -/
set_option maxRecDepth 100000 in
theorem mz_inv (xs : Nat → Int32) (L : Nat) : ∃ sn, mi_Inv sn xs L 0 ((mz_M (mj_M0 xs L) (mz_ev (mz_x xs L) (mz_w (mz_x xs L)))).I, (mz_M (mj_M0 xs L) (mz_ev (mz_x xs L) (mz_w (mz_x xs L)))).L, 0) := by
  generalize mz_x xs L = x
  have hok : mz_ok (mz_ev x (mz_w x)) = true := by with_unfolding_all rfl
  obtain ⟨_, _, _, i4, i5, _⟩ := mz_mem xs L (mz_ev x (mz_w x)) hok
  have hI : ∀ r k, r < 3000 → (mz_M (mj_M0 xs L) (mz_ev x (mz_w x))).I r k = mz_lI (mz_ev x (mz_w x)) r k := fun r k h => by rw [i4, if_pos h]
  have hH : ∀ r k, 3000 ≤ r → (mz_M (mj_M0 xs L) (mz_ev x (mz_w x))).I r k = (mj_M0 xs L).I r k := fun r k h => by rw [i4, if_neg (by omega)]
  have z2 : ∀ k, mz_lI (mz_ev x (mz_w x)) 4 k = 0 := fun k => by with_unfolding_all rfl
  have z3 : ∀ k, mz_lI (mz_ev x (mz_w x)) 83 k = 0 := fun k => by with_unfolding_all rfl
  have z4 : ∀ k, mz_lL (mz_ev x (mz_w x)) 6 k = 0 := fun k => by with_unfolding_all rfl
  have z5 : ∀ k, mz_lL (mz_ev x (mz_w x)) 84 k = 0 := fun k => by with_unfolding_all rfl
  have hsn : ∃ sn, 1 ≤ sn ∧ sn < 2147483648 ∧ (if x < 1 then (1 : Int32) else x) = nI sn ∧ mz_w x = (nI sn).toInt64 := by
    by_cases g : x < 1
    · refine ⟨1, by omega, by omega, by rw [if_pos g]; rfl, ?_⟩
      unfold mz_w
      rw [if_pos g]; rfl
    · have g0 : ¬ x < 0 := by
        intro h
        rw [Int32.lt_iff_toInt_lt] at g h
        have e0 : (0 : Int32).toInt = 0 := rfl
        have e1 : (1 : Int32).toInt = 1 := rfl
        omega
      obtain ⟨n, n1, rfl⟩ := mi_pos g0
      refine ⟨n, ?_, n1, by rw [if_neg g], ?_⟩
      · rw [show (1 : Int32) = nI 1 from rfl, mi_lt n1 (by omega)] at g
        omega
      · unfold mz_w
        rw [if_neg g]
  obtain ⟨sn, n1, n2, n3, n4⟩ := hsn
  refine ⟨sn, ⟨fun i => ?_, ?_⟩, ⟨n1, n2, ?_, ?_⟩, ⟨[], ⟨⟨by decide, fun k z hz => by simp at hz⟩, ⟨?_, fun k z hz => by simp at hz⟩, ⟨?_, fun k z hz => by simp at hz⟩, fun _ => ?_, fun e => absurd rfl e⟩, fun e => absurd rfl e⟩, ⟨0, by omega, ?_, ?_, fun i hi => (by omega)⟩, ⟨0, by omega, ?_, ?_, fun i hi => ⟨0, by omega, ?_, ?_⟩⟩, ⟨?_, ?_, ?_, fun i hi => ?_⟩⟩
  · refine (hH 3000 i (by omega)).trans ?_
    show (if (3000 : Nat) = 3000 then xs i else if (3000 : Nat) = 3001 then nI L else 0) = xs i
    rw [if_pos rfl]
  · refine (hH 3001 0 (by omega)).trans ?_
    show (if (3001 : Nat) = 3000 then xs 0 else if (3001 : Nat) = 3001 then nI L else 0) = nI L
    rw [if_neg (by omega), if_pos rfl]
  · refine (hI 0 0 (by omega)).trans (Eq.trans ?_ n3)
    with_unfolding_all rfl
  · refine (i5 49 8).trans (Eq.trans ?_ n4)
    with_unfolding_all rfl
  · refine (hI 16 4 (by omega)).trans ?_
    with_unfolding_all rfl
  · refine (hI 49 36 (by omega)).trans ?_
    with_unfolding_all rfl
  · refine (hI 49 25 (by omega)).trans ?_
    with_unfolding_all rfl
  · refine (hI 1 1 (by omega)).trans ?_
    with_unfolding_all rfl
  · refine (hI 49 1 (by omega)).trans ?_
    with_unfolding_all rfl
  · refine (hI 3 1 (by omega)).trans ?_
    with_unfolding_all rfl
  · refine (hI 49 50 (by omega)).trans ?_
    with_unfolding_all rfl
  · exact (hI 4 i (by omega)).trans (z2 i)
  · exact (hI 83 i (by omega)).trans (z3 i)
  · refine (hI 5 4 (by omega)).trans (Eq.trans ?_ (hI 49 51 (by omega)).symm)
    with_unfolding_all rfl
  · refine (i5 5 2).trans (Eq.trans ?_ (i5 49 54).symm)
    with_unfolding_all rfl
  · refine (i5 5 3).trans (Eq.trans ?_ (i5 49 55).symm)
    with_unfolding_all rfl
  · exact ((i5 6 i).trans (z4 i)).trans ((i5 84 i).trans (z5 i)).symm
theorem mj_goal : mj_Goal := by
  intro L xs hL
  obtain ⟨sn, hi⟩ := mz_inv xs L
  obtain ⟨o', t', e1, e2⟩ := ml_loop (N := 1400) (R := 165) (by omega) (by omega) hL 600 1 0 _ (Or.inl rfl) hi (by omega) (by omega)
  have hw := mp_Law_law_l33 1400 165 601 0 (Or.inl rfl) 1 ((mz_M (mj_M0 xs L) (mz_ev (mz_x xs L) (mz_w (mz_x xs L)))).I, (mz_M (mj_M0 xs L) (mz_ev (mz_x xs L) (mz_w (mz_x xs L)))).L, 0)
  have hj := mw_jp (lv := [(4, .int 1), (3, .ref 85), (2, .ref 49), (1, .ref 0), (0, .ref 3000)]) [(0, .ref 3000), (1, .ref 0), (2, .ref 49), (3, .ref 85), (4, .int 1)] rfl rfl rfl hw
  have hr := hj 1200 (by omega) _ e1
  rw [← mz_all xs L (mz_x xs L) (mz_w (mz_x xs L))] at hr
  obtain ⟨n, hn⟩ := mz_law xs L (by omega) hr
  have e3 : t'.2.2 ≤ 600 := by
    have : t'.2.2 ≤ 0 + 600 := e2
    omega
  refine ⟨n, 1200, _, by omega, hn, ?_, ?_⟩
  · show 86 + t'.2.2 ≤ 601024
    omega
  · show mw_n0 + 6 * t'.2.2 ≤ 7293000
    unfold mw_n0
    omega
