/-! THE MINI MACHINE IS SOUND: the induction on the steps -/
theorem mj_r0.of {n : Nat} {rho0 rho rho' : Nat → Nat} (h : mj_r0 rho0 rho) (k : mj_ag n rho rho') : mj_r0 rho0 rho' := fun r h1 h2 => (k r h2 (Or.inr h1)).trans (h r h1 h2)
/-- a caught exception takes the place 1000000 -/
theorem mj_jk {rho : Nat → Nat} {q9 : Nat} (lv : mj_L) : mj_lm (mj_ex rho 1000000 q9) (lv.filter (fun z => match z.2 with | .ref r => Nat.blt r 1000000 | _ => true)) = mj_lm rho (lv.filter (fun z => match z.2 with | .ref r => Nat.blt r 1000000 | _ => true)) := by
  refine List.map_congr_left fun z hz => ?_
  have h1 := (List.mem_filter.mp hz).2
  obtain ⟨i, v⟩ := z
  cases v <;> try rfl
  rename_i r
  simp only [Nat.blt_eq] at h1
  simp only [mj_vm, mj_ex]
  rw [if_neg (by omega)]
theorem mj_In.jk {G : mj_G} {rho : Nat → Nat} {M : mj_M} {H : Heap} {q9 : Nat} (h : mj_In G rho M H) : mj_In G (mj_ex rho 1000000 q9) M H := by
  obtain ⟨h1, h2, h3, h4, h5, h6, h7⟩ := h
  have hw : mj_ws G.cA (mj_ex rho 1000000 q9) M = mj_ws G.cA rho M := mj_ws_congr rfl rfl rfl rfl (fun r hr => by unfold mj_ex; rw [if_neg (by omega)]) (fun r k q hq => by have := h4 r k q hq; unfold mj_ex; rw [if_neg (by omega)])
  exact ⟨by rw [hw]; exact h1, by rw [hw]; exact h2, h3, h4, by unfold mj_ex; rw [if_neg (by decide)]; exact h5, h6, h7⟩
theorem lv_fewer {ls : Array Slot} {nL : Nat} {a b : List (Nat × Value)} (h : lv_has ls nL a) (hs : ∀ q ∈ b, q ∈ a) : lv_has ls nL b := ⟨h.1, h.2.1, fun q hq => h.2.2 q (hs q hq)⟩
set_option maxHeartbeats 4000000 in
theorem mj_sound {Z : State → Heap → Prop} {G : mj_G} {rho0 : Nat → Nat} (hZ : mj_Zok Z G rho0) (hLib : mj_LibLaw Z G rho0) (hT : mj_ThrowLaw Z G) (hCt : mj_CatchLaw Z G) : ∀ n, mj_Sd Z G rho0 n := by
  intro n
  induction n with
  | zero =>
    intro d k x o M' X p l e R s m args below meth c Q rho H locs ls cells slots c0 s0 hrun
    cases hrun
  | succ n ih =>
    intro d k x o M' X p l e R s m args below meth c Q rho H locs ls cells slots c0 s0 hrun hX hl hC hE hI r0 hS hlv hd hd2 hc0 hs0 hcR hsR k1 k2 k3
    obtain ⟨pc, lv, st, M⟩ := x
    cases ha : mj_at k pc with
    | none => rw [mj_run] at hrun; simp only [ha] at hrun; cases hrun
    | some E =>
      have hstr : ∀ (j : Nat) (q : Nat × Nat × String), mj_str[j]? = some q → vk_R (mj_cn q.1) q.2.1 q.2.2 (rho (2000 + j)) s := fun j q hq => by
        rw [r0 (2000 + j) (by omega) (by have := mj_str_lt hq; omega)]
        exact hZ.2.1 s s.heap hE.2.2.2.2.2 j q hq
      obtain ⟨hdec, hok2⟩ := mj_dec hX ha
      have stp : ∀ y, mj_step E (pc, lv, st, M) = some y → mj_run n d k y = some (o, M') → W p l e R s m args below meth c H locs cells slots Q (F0 m pc ls (mj_sm rho st)) := by
        intro y hy h3
        have hle := mj_run_le _ _ _ _ _ _ h3
        have hle1 := mj_step_le hy
        have a1 : M.nc ≤ y.2.2.2.nc := hle1.1
        have a2 : M.ns ≤ y.2.2.2.ns := hle1.2.1
        have b1 : y.2.2.2.nc ≤ M'.nc := hle.1
        have b2 : y.2.2.2.ns ≤ M'.ns := hle.2.1
        have c1 : cells + c0 = M.nc := hc0
        have c2 : slots + s0 = M.ns := hs0
        refine mj_step_ok hX ha hy hC hE hI hS hlv hstr ⟨by omega, by omega⟩ (fun rho' H' locs' ls' ag hI' hS' hl' => ?_)
        exact ih d k y o M' X p l e R s m args below meth c Q rho' H' locs' ls' _ _ c0 s0 h3 hX hl hC hE hI' (r0.of ag) hS' hl' hd hd2 (by omega) (by omega) hcR hsR (k1.to ag hle1.2.2) (k2.to ag hle1.2.2) (k3.to ag hle1.2.2)
      have lib : ∀ y, ((∃ j, E.1 = .invokestatic j) ∨ (∃ j, E.1 = .invokespecial j) ∨ ∃ j, E.1 = .invokevirtual j) → 1000 ≤ E.2.2.1 → 5 < d → (st.map fun v => v.category).sum < 9 → mj_lib E (pc, lv, st, M) = some y → mj_run n d k y = some (o, M') → W p l e R s m args below meth c H locs cells slots Q (F0 m pc ls (mj_sm rho st)) := by
        intro y hj h10 h5 hsm hy h3
        obtain ⟨e1, e2⟩ := mj_lib_le hy
        obtain ⟨ypc, ylv, yst, yM⟩ := y
        simp only at e1 e2
        have e1 := e1.symm
        have e2 := e2.symm
        subst e1 e2
        have hle := mj_run_le _ _ _ _ _ _ h3
        have b1 : M.nc ≤ M'.nc := hle.1
        have b2 : M.ns ≤ M'.ns := hle.2.1
        have c1 : cells + c0 = M.nc := hc0
        have c2 : slots + s0 = M.ns := hs0
        exact hLib k (pc, lv, st, M) (ypc, lv, yst, M) E X p l e R s m args below meth c Q rho H locs ls cells slots hX ha hj h10 hy hsm (by omega) (by omega) (by omega) (by omega) hC hE hI r0 hS hlv (fun H' locs' hI' hS' =>
          ih d k (ypc, lv, yst, M) o M' X p l e R s m args below meth c Q rho H' locs' ls cells slots c0 s0 h3 hX hl hC hE hI' r0 hS' hlv hd hd2 hc0 hs0 hcR hsR k1 k2 k3)
      have bk : ∀ (N : Nat) (v : Option Value) (M1 : mj_M), mj_Le M M1 → mj_fresh M.nr lv (mj_args N st).2 = true → mj_run n d k (pc + 3, lv, v.toList ++ (mj_args N st).2, M1) = some (o, M') → mj_Bk p l e R s m args below meth c Q G rho0 rho M M1 v cells slots (M1.nc - M.nc) (M1.ns - M.ns) pc ls (mj_sm rho (mj_args N st).2) := by
        intro N v M1 hle1 hfr h3 rho' H1 locs1 ag r0' hI' hS'
        have hle := mj_run_le _ _ _ _ _ _ h3
        have a1 : M.nc ≤ M1.nc := hle1.1
        have a2 : M.ns ≤ M1.ns := hle1.2.1
        have a3 : M.nr ≤ M1.nr := hle1.2.2
        have b1 : M1.nc ≤ M'.nc := hle.1
        have b2 : M1.ns ≤ M'.ns := hle.2.1
        have c1 : cells + c0 = M.nc := hc0
        have c2 : slots + s0 = M.ns := hs0
        obtain ⟨f1, f2⟩ := mj_ag_lm hI.2.2.1 ag hfr
        have h9 := ih d k (pc + 3, lv, v.toList ++ (mj_args N st).2, M1) o M' X p l e R s m args below meth c Q rho' H1 locs1 ls (cells + (M1.nc - M.nc)) (slots + (M1.ns - M.ns)) c0 s0 h3 hX hl hC hE hI' r0' hS' (by rw [f1]; exact hlv) hd hd2 (by show cells + (M1.nc - M.nc) + c0 = M1.nc; omega) (by show slots + (M1.ns - M.ns) + s0 = M1.ns; omega) hcR hsR (k1.to ag a3) (k2.to ag a3) (k3.to ag a3)
        have h10 : mj_sm rho' (v.toList ++ (mj_args N st).2) = (v.map (mj_vm rho')).toList ++ mj_sm rho (mj_args N st).2 := by
          rw [mj_sm_app, f2]
          cases v <;> rfl
        rw [← h10]
        exact h9
      cases hs : mj_spec E.1 with
      | false =>
        rw [mj_run_def (x := (pc, lv, st, M)) ha hs] at hrun
        cases hy : mj_step E (pc, lv, st, M) with
        | none => rw [hy] at hrun; cases hrun
        | some y => rw [hy] at hrun; exact stp y hy hrun
      | true =>
        rcases mj_spec_or hs with e1 | e1 | ⟨j, e1⟩ | ⟨j, e1⟩ | ⟨j, e1⟩ | ⟨j, e1⟩
        · obtain ⟨g1, g2, g3, g4⟩ := mj_run_ret (x := (pc, lv, st, M)) ha e1 hrun
          simp only at g1 g4
          subst g1 g3 g4
          obtain ⟨i, len, rest⟩ := E
          simp only at e1
          subst e1
          simp only [mj_ok2] at hok2
          have h3 := Nat.eq_of_beq_eq_true hok2
          subst h3
          exact k1 none pc rho H locs ls cells slots _ rfl (mj_ag.refl _ _) r0 hI hS g2 hdec (Or.inl ⟨rfl, rfl⟩) hc0 hs0
        · obtain ⟨v, g1, g2, g3, g4, g5⟩ := mj_run_iret (x := (pc, lv, st, M)) ha e1 hrun
          simp only at g1 g4
          subst g1 g3 g4
          obtain ⟨i, len, rest⟩ := E
          rcases g5 with ⟨w, rfl, g5⟩ | ⟨w, rfl, g5⟩
          · simp only at g5
            subst g5
            simp only [mj_ok2] at hok2
            have h3 := Nat.eq_of_beq_eq_true hok2
            subst h3
            exact k1 (some (.int w)) pc rho H locs ls cells slots _ rfl (mj_ag.refl _ _) r0 hI hS g2 hdec (Or.inr (Or.inl ⟨w, rfl, rfl⟩)) hc0 hs0
          · simp only at g5
            subst g5
            simp only [mj_ok2] at hok2
            have h3 := Nat.eq_of_beq_eq_true hok2
            subst h3
            exact k1 (some (.long w)) pc rho H locs ls cells slots _ rfl (mj_ag.refl _ _) r0 hI hS g2 hdec (Or.inr (Or.inr ⟨w, rfl, rfl⟩)) hc0 hs0
        · rcases mj_run_new (x := (pc, lv, st, M)) ha e1 hrun with ⟨y, hy, h3⟩ | ⟨g1, g2, g3, g4, g5, g6⟩
          · exact stp y hy h3
          · exact k2 (E.2.2.1 - 100) pc j E st M rho H locs ls cells slots g5 ha e1 (by omega) g2 g3 (by omega) (by omega) (mj_ag.refl _ _) r0 hI hS hlv.1 g6 hc0 hs0
        · rcases mj_run_st (x := (pc, lv, st, M)) ha e1 hrun with ⟨g1, d0, v, M1, g2, g3, g4, g5, g6, g7, g8⟩ | ⟨g1, g2, g3, y, hy, h3⟩
          · have hle1 := mj_run_le _ _ _ _ _ _ g6
            have hle2 := mj_run_le _ _ _ _ _ _ g8
            have a1 : M.nc ≤ M1.nc := hle1.1
            have a2 : M.ns ≤ M1.ns := hle1.2.1
            have b1 : M1.nc ≤ M'.nc := hle2.1
            have b2 : M1.ns ≤ M'.ns := hle2.2.1
            have c1 : cells + c0 = M.nc := hc0
            have c2 : slots + s0 = M.ns := hs0
            obtain ⟨i, len, a, b, vv, tl⟩ := E
            simp only at e1
            subst e1
            simp only [mj_ok2, Bool.and_eq_true, Bool.or_eq_true] at hok2
            have h3 := Nat.eq_of_beq_eq_true hok2.1
            subst h3
            rcases hok2.2 with h4 | ⟨h4, h5⟩
            · exact absurd (Nat.le_of_ble_eq_true h4) (Nat.not_le.mpr g1)
            · exact mj_callS hZ ih hl hX hC hE hI r0 hS hlv.1 h4 (Nat.eq_of_beq_eq_true h5) hdec g4 g3 g5 g6 (by omega) (by omega) (by omega) (by omega) (bk b v M1 hle1 g7 g8)
          · exact lib y (Or.inl ⟨j, e1⟩) g1 g2 g3 hy h3
        · rcases mj_run_sp (x := (pc, lv, st, M)) ha e1 hrun with ⟨g1, ⟨r, rest, q1, q2, q3, q4⟩, d0, v, M1, g2, g3, g4, g5, g6, g7, g8⟩ | ⟨g1, g2, g3, y, hy, h3⟩
          · have hle1 := mj_run_le _ _ _ _ _ _ g6
            have hle2 := mj_run_le _ _ _ _ _ _ g8
            have a1 : M.nc ≤ M1.nc := hle1.1
            have a2 : M.ns ≤ M1.ns := hle1.2.1
            have b1 : M1.nc ≤ M'.nc := hle2.1
            have b2 : M1.ns ≤ M'.ns := hle2.2.1
            have c1 : cells + c0 = M.nc := hc0
            have c2 : slots + s0 = M.ns := hs0
            obtain ⟨i, len, a, b, vv, tl⟩ := E
            simp only at e1
            subst e1
            simp only [mj_ok2, Bool.and_eq_true, Bool.or_eq_true] at hok2
            have h3 := Nat.eq_of_beq_eq_true hok2.1
            subst h3
            rcases hok2.2 with h4 | ⟨h4, h5⟩
            · exact absurd (Nat.le_of_ble_eq_true h4) (Nat.not_le.mpr g1)
            · exact mj_callI hZ ih hl hX hC hE hI r0 hS hlv.1 h4 (Nat.eq_of_beq_eq_true h5) hdec g4 q1 g3 g5 g6 (by omega) (by omega) (by omega) (by omega) (bk (b + 1) v M1 hle1 g7 g8)
          · exact lib y (Or.inr (Or.inl ⟨j, e1⟩)) g1 g2 g3 hy h3
        · rcases mj_run_vi (x := (pc, lv, st, M)) ha e1 hrun with ⟨g1, ⟨r, rest, q1, q2, q3, q4⟩, hc | hc⟩ | ⟨g1, g2, g3, y, hy, h3⟩
          · obtain ⟨d0, v, M1, g2, g3, g4, g5, g6, g7, g8⟩ := hc
            have hle1 := mj_run_le _ _ _ _ _ _ g6
            have hle2 := mj_run_le _ _ _ _ _ _ g8
            have a1 : M.nc ≤ M1.nc := hle1.1
            have a2 : M.ns ≤ M1.ns := hle1.2.1
            have b1 : M1.nc ≤ M'.nc := hle2.1
            have b2 : M1.ns ≤ M'.ns := hle2.2.1
            have c1 : cells + c0 = M.nc := hc0
            have c2 : slots + s0 = M.ns := hs0
            obtain ⟨i, len, a, b, vv, tl⟩ := E
            simp only at e1
            subst e1
            simp only [mj_ok2, Bool.and_eq_true, Bool.or_eq_true] at hok2
            have h3 := Nat.eq_of_beq_eq_true hok2.1
            subst h3
            rcases hok2.2 with h4 | ⟨h4, h5⟩
            · exact absurd (Nat.le_of_ble_eq_true h4) (Nat.not_le.mpr g1)
            · exact mj_callV hZ hT ih hl hX hC hE hI r0 hS hlv.1 h4 (Nat.eq_of_beq_eq_true h5) hdec g4 q1 q2 q3 q4 g3 g5 g6 (by omega) (by omega) (by omega) (by omega) (fun v' hv' => by cases hv'; exact bk (b + 1) v M1 hle1 g7 g8) (fun q hq => by cases hq)
          · obtain ⟨d0, q, M1, g2, g3, g4, g5, g6, g7, g7b, g8⟩ := hc
            have hle1 := mj_run_le _ _ _ _ _ _ g6
            have a1 : M.nc ≤ M1.nc := hle1.1
            have a2 : M.ns ≤ M1.ns := hle1.2.1
            have a3 : M.nr ≤ M1.nr := hle1.2.2
            have c1 : cells + c0 = M.nc := hc0
            have c2 : slots + s0 = M.ns := hs0
            have bM : M1.nc ≤ M'.nc ∧ M1.ns ≤ M'.ns := by
              rcases g8 with ⟨hp, -, g8⟩ | ⟨-, -, rfl⟩
              · have hle2 := mj_run_le _ _ _ _ _ _ g8
                exact ⟨hle2.1, hle2.2.1⟩
              · exact ⟨Nat.le_refl _, Nat.le_refl _⟩
            obtain ⟨b1, b2⟩ := bM
            obtain ⟨i, len, a, b, vv, tl⟩ := E
            simp only at e1
            subst e1
            simp only [mj_ok2, Bool.and_eq_true, Bool.or_eq_true] at hok2
            have h3 := Nat.eq_of_beq_eq_true hok2.1
            subst h3
            rcases hok2.2 with h4 | ⟨h4, h5⟩
            · exact absurd (Nat.le_of_ble_eq_true h4) (Nat.not_le.mpr g1)
            · refine mj_callV hZ hT ih hl hX hC hE hI r0 hS hlv.1 h4 (Nat.eq_of_beq_eq_true h5) hdec g4 q1 q2 q3 q4 g3 g5 g6 (by omega) (by omega) (by omega) (by omega) (fun v' hv' => by cases hv') (fun q' hq' rho' H1 locs1 ce q9 ag r0' hI' hS' hcell hv hcl => ?_)
              cases hq'
              rcases g8 with ⟨hp, gh, g8⟩ | ⟨gh, rfl, rfl⟩
              · refine hCt k pc q hp X p l e R s m args below meth c Q H1 locs1 ls _ _ _ ce q9 hX gh hC hE hS' hcell hv hcl ?_
                obtain ⟨f1, -⟩ := mj_ag_lm hI.2.2.1 ag g7b
                have f3 : mj_lm rho' (lv.filter (fun z => match z.2 with | .ref r => Nat.blt r 1000000 | _ => true)) = mj_lm rho (lv.filter (fun z => match z.2 with | .ref r => Nat.blt r 1000000 | _ => true)) := by
                  have hall := g7b
                  simp only [mj_fresh, Bool.and_eq_true, List.all_eq_true] at hall
                  have := mj_ag_lm hI.2.2.1 (lv := lv.filter (fun z => match z.2 with | .ref r => Nat.blt r 1000000 | _ => true)) (st := []) ag (by
                    simp only [mj_fresh, Bool.and_eq_true, List.all_eq_true]
                    exact ⟨fun z hz => hall.1 z (List.mem_filter.mp hz).1, fun z hz => by cases hz⟩)
                  exact this.1
                have agj : mj_ag M.nr rho (mj_ex rho' 1000000 q9) := fun r h0 hr => by
                  unfold mj_ex
                  rw [if_neg h0]
                  exact ag r h0 hr
                have r0j : mj_r0 rho0 (mj_ex rho' 1000000 q9) := fun r h1 h2 => by
                  unfold mj_ex
                  rw [if_neg h2]
                  exact r0' r h1 h2
                have h9 := ih d k (hp, lv.filter (fun z => match z.2 with | .ref r => Nat.blt r 1000000 | _ => true), [.ref 1000000], M1) o M' X p l e R s m args below meth c Q (mj_ex rho' 1000000 q9) H1 locs1 ls (cells + (M1.nc - M.nc)) (slots + (M1.ns - M.ns)) c0 s0 g8 hX hl hC hE hI'.jk r0j hS' (by
                  show lv_has ls X.2.2.1 (mj_lm (mj_ex rho' 1000000 q9) (lv.filter (fun z => match z.2 with | .ref r => Nat.blt r 1000000 | _ => true)))
                  rw [mj_jk, f3]
                  refine lv_fewer hlv fun z hz => ?_
                  obtain ⟨w, hw, rfl⟩ := List.mem_map.mp hz
                  exact List.mem_map.mpr ⟨w, (List.mem_filter.mp hw).1, rfl⟩) hd hd2 (by show cells + (M1.nc - M.nc) + c0 = M1.nc; omega) (by show slots + (M1.ns - M.ns) + s0 = M1.ns; omega) hcR hsR (k1.to agj a3) (k2.to agj a3) (k3.to agj a3)
                have h10 : mj_sm (mj_ex rho' 1000000 q9) [.ref 1000000] = [.ref q9] := by simp [mj_sm, mj_vm, mj_ex]
                rw [← h10]
                exact h9
              · exact k3 q pc _ rho' H1 locs1 ls _ _ ce q9 rfl gh ag r0' hI' hS' hcell hv hcl (by omega) (by omega)
          · exact lib y (Or.inr (Or.inr ⟨j, e1⟩)) g1 g2 g3 hy h3
