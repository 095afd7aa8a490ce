/-! .. a run doesn't see locals that nobody reads -/
set_option maxHeartbeats 4000000 in
theorem mw_step_weak {E : mj_E} {pc : Nat} {a b : mj_L} {st : List Value} {M : mj_M} {y : mj_C} (hs : mw_sub M.nr a b) (h : mj_step E (pc, a, st, M) = some y) : ∃ b', mj_step E (pc, b, st, M) = some (y.1, b', y.2.2.1, y.2.2.2) ∧ mw_sub y.2.2.2.nr y.2.1 b' := by
  have hle := (mj_step_le h).2.2
  suffices hh : ∃ b', mj_step E (pc, b, st, M) = some (y.1, b', y.2.2.1, y.2.2.2) ∧ mw_sub M.nr y.2.1 b' by
    obtain ⟨b', h1, h2⟩ := hh
    exact ⟨b', h1, mw_sub_le h2 hle⟩
  clear hle
  obtain ⟨i, len, a1, b1, v, tl⟩ := E
  revert h
  unfold mj_step
  simp only
  split
  all_goals intro h
  all_goals first
    | (cases h; done)
    | (cases h; exact ⟨b, rfl, hs⟩)
    | (cases h; exact ⟨_, rfl, mw_sub_s1 _ _ hs⟩)
    | (cases h; exact ⟨_, rfl, mw_sub_s2 _ _ hs⟩)
    | (obtain ⟨e1, e2, e3⟩ := mw_if_weak (b := b) h; exact ⟨b, e3, by rw [e1]; exact hs⟩)
    | (split at h
       · rename_i hg; have e := mw_get hs hg; cases h; refine ⟨b, ?_, hs⟩; simp only [e]
       · cases h)
    | (split at h
       · rename_i hg; have e := mw_get hs hg; cases h; refine ⟨_, ?_, mw_sub_s1 _ _ hs⟩; simp only [e]
       · cases h)
    | (split at h
       · cases h
       · rename_i hg; cases h; refine ⟨b, ?_, hs⟩; rw [if_neg hg])
    | (split at h
       · rename_i hg; cases h; refine ⟨b, ?_, hs⟩; simp only [hg]; done
       · cases h)
    | (split at h
       · rename_i hg; have e := mw_sub_fresh hs hg.2; cases h; refine ⟨b, ?_, hs⟩; rw [if_pos ⟨hg.1, e⟩]
       · cases h)
    | (split at h
       · rename_i hg; have e := mw_sub_fresh hs hg.2.2; cases h; refine ⟨b, ?_, hs⟩; rw [if_pos ⟨hg.1, hg.2.1, e⟩]
       · cases h)
    | (simp only [Bool.cond_eq_ite] at h ⊢
       split at h
       · rename_i hg
         cases h; refine ⟨b, ?_, hs⟩; rw [if_pos hg]
       · cases h)
    | (simp only [Bool.cond_eq_ite] at h ⊢
       split at h
       · rename_i hg
         rw [if_pos hg]
         generalize mj_wr M _ _ _ _ = z at h ⊢
         cases z with
         | none => cases h
         | some M' => cases h; exact ⟨b, rfl, hs⟩
       · cases h)
    | (simp only [Bool.cond_eq_ite] at h ⊢
       split at h
       · rename_i hg
         cases h; refine ⟨b, ?_, hs⟩; rw [if_pos hg]
       · rename_i hg
         split at h
         · rename_i hg2; cases h; refine ⟨b, ?_, hs⟩; rw [if_neg hg, if_pos hg2]
         · cases h)
set_option maxRecDepth 100000 in
theorem mw_lib_weak {E : mj_E} {pc : Nat} {a b : mj_L} {st : List Value} {M : mj_M} {y : mj_C} (h : mj_lib E (pc, a, st, M) = some y) : mj_lib E (pc, b, st, M) = some (y.1, b, y.2.2.1, y.2.2.2) ∧ y.2.1 = a ∧ y.2.2.2 = M := by
  refine ⟨?_, (mj_lib_le h).2, (mj_lib_le h).1⟩
  obtain ⟨i, len, a1, b1, v, tl⟩ := E
  revert h
  unfold mj_lib
  simp only
  split
  all_goals intro h
  all_goals first
    | (cases h; done)
    | (cases h; rfl)
    | (split at h
       · rename_i hg
         simp only [Bool.cond_eq_ite] at h ⊢
         split at h
         · rename_i hh; cases h; simp only [hg]; rw [if_pos hh]
         · cases h
       · cases h)
theorem mw_run_weak : ∀ (n d k pc : Nat) (a b : mj_L) (st : List Value) (M : mj_M) (o : mj_R) (M' : mj_M), mw_sub M.nr a b → mj_run n d k (pc, a, st, M) = some (o, M') → mj_run n d k (pc, b, st, M) = some (o, M') := by
  intro n
  induction n with
  | zero => intro d k pc a b st M o M' hs h; cases h
  | succ n ih =>
    intro d k pc a b st M o M' hs h
    cases ha : mj_at k pc with
    | none => rw [mj_run] at h; simp only [ha] at h; cases h
    | some E =>
    cases hsp : mj_spec E.1 with
    | false =>
      rw [mj_run_def (x := (pc, a, st, M)) ha hsp] at h
      rw [mj_run_def (x := (pc, b, st, M)) ha hsp]
      cases hy : mj_step E (pc, a, st, M) with
      | none => rw [hy] at h; cases h
      | some y =>
        rw [hy] at h
        obtain ⟨b', hb, hs'⟩ := mw_step_weak hs hy
        rw [hb]
        exact ih _ _ _ _ _ _ _ _ _ hs' h
    | true =>
      rw [mj_run] at h ⊢
      simp only [ha] at h ⊢
      obtain ⟨i, len, a1, b1, v, tl⟩ := E
      cases i <;> (try (cases hsp; done))
      case return_ =>
        rcases st with _ | ⟨x1, st⟩
        · exact h
        · cases h
      case ireturn =>
        rcases st with _ | ⟨x1, _ | ⟨x2, st⟩⟩
        · cases h
        · cases x1 <;> first | exact h | (cases h; done)
        · cases x1 <;> cases h
      case lreturn =>
        rcases st with _ | ⟨x1, _ | ⟨x2, st⟩⟩
        · cases h
        · cases x1 <;> first | exact h | (cases h; done)
        · cases x1 <;> cases h
      case new j =>
        simp only [Bool.cond_eq_ite] at h ⊢
        by_cases c1 : Nat.blt a1 100 = true
        · rw [if_pos c1] at h ⊢
          cases hy : mj_step (.new j, len, a1, b1, v, tl) (pc, a, st, M) with
          | none => rw [hy] at h; cases h
          | some y =>
            rw [hy] at h
            obtain ⟨b', hb, hs'⟩ := mw_step_weak hs hy
            rw [hb]
            exact ih _ _ _ _ _ _ _ _ _ hs' h
        · rw [if_neg c1] at h ⊢; exact h
      case invokestatic j =>
        simp only [Bool.cond_eq_ite] at h ⊢
        by_cases c1 : Nat.blt a1 1000 = true
        · rw [if_pos c1] at h ⊢
          cases d with
          | zero => cases h
          | succ d0 =>
            simp only at h ⊢
            by_cases c2 : (Nat.blt (((mj_args b1 st).2.map fun v => v.category).sum) 9 && (Nat.beq (mj_args b1 st).1.length b1 && Nat.ble (lg_sl (mj_args b1 st).1).length (mj_ml a1))) = true
            · rw [if_pos c2] at h ⊢
              cases hr : mj_run n d0 a1 (0, lv_args 0 (mj_args b1 st).1, [], M) with
              | none => rw [hr] at h; cases h
              | some q =>
                obtain ⟨o1, M1⟩ := q
                rw [hr] at h
                have hle := (mj_run_le _ _ _ _ _ _ hr).2.2
                cases o1 with
                | inr q => cases h
                | inl v1 =>
                  simp only at h ⊢
                  by_cases c3 : mj_fresh M.nr a (mj_args b1 st).2 = true
                  · rw [if_pos c3] at h
                    rw [if_pos (mw_sub_fresh hs c3)]
                    exact ih _ _ _ _ _ _ _ _ _ (mw_sub_le hs hle) h
                  · rw [if_neg c3] at h; cases h
            · rw [if_neg c2] at h; cases h
        · rw [if_neg c1] at h ⊢
          by_cases c4 : (Nat.blt 5 d && Nat.blt ((st.map fun v => v.category).sum) 9) = true
          · rw [if_pos c4] at h ⊢
            cases hy : mj_lib (.invokestatic j, len, a1, b1, v, tl) (pc, a, st, M) with
            | none => rw [hy] at h; cases h
            | some y =>
              rw [hy] at h
              obtain ⟨e1, e2, e3⟩ := mw_lib_weak (b := b) hy
              rw [e1]
              exact ih _ _ _ _ _ _ _ _ _ (by rw [e2, e3]; exact hs) h
          · rw [if_neg c4] at h; cases h
      case invokespecial j =>
        simp only [Bool.cond_eq_ite] at h ⊢
        by_cases c1 : Nat.blt a1 1000 = true
        · rw [if_pos c1] at h ⊢
          cases d with
          | zero => cases h
          | succ d0 =>
            simp only at h ⊢
            by_cases c2 : (Nat.blt (((mj_args (b1 + 1) st).2.map fun v => v.category).sum) 9 && (Nat.beq (mj_args (b1 + 1) st).1.length (b1 + 1) && Nat.ble (lg_sl (mj_args (b1 + 1) st).1).length (mj_ml a1))) = true
            · rw [if_pos c2] at h ⊢
              generalize hc : (mj_args (b1 + 1) st).1 = as at h ⊢
              rcases as with _ | ⟨w, ws⟩
              · cases h
              · cases w <;> (try (cases h; done))
                rename_i r
                simp only at h ⊢
                by_cases c5 : (Nat.blt r M.nr && (Nat.beq (mj_sh r).1 0 && Nat.beq (mj_sh r).2.1 (((mj_mt a1).map fun q => q.2.2.2.2.1).getD 99))) = true
                · rw [if_pos c5] at h ⊢
                  cases hr : mj_run n d0 a1 (0, lv_args 0 (.ref r :: ws), [], M) with
                  | none => rw [hr] at h; cases h
                  | some q =>
                    obtain ⟨o1, M1⟩ := q
                    rw [hr] at h
                    have hle := (mj_run_le _ _ _ _ _ _ hr).2.2
                    cases o1 with
                    | inr q =>
                      simp only at h ⊢
                      cases h
                    | inl v1 =>
                      simp only at h ⊢
                      by_cases c3 : mj_fresh M.nr a (mj_args (b1 + 1) st).2 = true
                      · rw [if_pos c3] at h
                        rw [if_pos (mw_sub_fresh hs c3)]
                        exact ih _ _ _ _ _ _ _ _ _ (mw_sub_le hs hle) h
                      · rw [if_neg c3] at h; cases h
                · rw [if_neg c5] at h; cases h
            · rw [if_neg c2] at h; cases h
        · rw [if_neg c1] at h ⊢
          by_cases c4 : (Nat.blt 5 d && Nat.blt ((st.map fun v => v.category).sum) 9) = true
          · rw [if_pos c4] at h ⊢
            cases hy : mj_lib (.invokespecial j, len, a1, b1, v, tl) (pc, a, st, M) with
            | none => rw [hy] at h; cases h
            | some y =>
              rw [hy] at h
              obtain ⟨e1, e2, e3⟩ := mw_lib_weak (b := b) hy
              rw [e1]
              exact ih _ _ _ _ _ _ _ _ _ (by rw [e2, e3]; exact hs) h
          · rw [if_neg c4] at h; cases h
      case invokevirtual j =>
        simp only [Bool.cond_eq_ite] at h ⊢
        by_cases c1 : Nat.blt a1 1000 = true
        · rw [if_pos c1] at h ⊢
          cases d with
          | zero => cases h
          | succ d0 =>
            simp only at h ⊢
            by_cases c2 : (Nat.blt (((mj_args (b1 + 1) st).2.map fun v => v.category).sum) 9 && (Nat.beq (mj_args (b1 + 1) st).1.length (b1 + 1) && Nat.ble (lg_sl (mj_args (b1 + 1) st).1).length (mj_ml a1))) = true
            · rw [if_pos c2] at h ⊢
              generalize hc : (mj_args (b1 + 1) st).1 = as at h ⊢
              rcases as with _ | ⟨w, ws⟩
              · cases h
              · cases w <;> (try (cases h; done))
                rename_i r
                simp only at h ⊢
                by_cases c5 : (Nat.blt r M.nr && (Nat.beq (mj_sh r).1 0 && Nat.beq (mj_sh r).2.1 (((mj_mt a1).map fun q => q.2.2.2.2.1).getD 99))) = true
                · rw [if_pos c5] at h ⊢
                  cases hr : mj_run n d0 a1 (0, lv_args 0 (.ref r :: ws), [], M) with
                  | none => rw [hr] at h; cases h
                  | some q =>
                    obtain ⟨o1, M1⟩ := q
                    rw [hr] at h
                    have hle := (mj_run_le _ _ _ _ _ _ hr).2.2
                    cases o1 with
                    | inr q =>
                      simp only at h ⊢
                      by_cases c6 : (Nat.beq M.nr M1.nr && mj_fresh M.nr a []) = true
                      · rw [if_pos c6] at h
                        rw [if_pos (by rw [Bool.and_eq_true] at c6 ⊢; exact ⟨c6.1, mw_sub_fresh hs c6.2⟩)]
                        cases hh : mj_hdl pc q (mj_hd k) with
                        | none => rw [hh] at h; exact h
                        | some hp => rw [hh] at h; exact ih _ _ _ _ _ _ _ _ _ (mw_sub_le (mw_sub_filter _ hs) hle) h
                      · rw [if_neg c6] at h; cases h
                    | inl v1 =>
                      simp only at h ⊢
                      by_cases c3 : mj_fresh M.nr a (mj_args (b1 + 1) st).2 = true
                      · rw [if_pos c3] at h
                        rw [if_pos (mw_sub_fresh hs c3)]
                        exact ih _ _ _ _ _ _ _ _ _ (mw_sub_le hs hle) h
                      · rw [if_neg c3] at h; cases h
                · rw [if_neg c5] at h; cases h
            · rw [if_neg c2] at h; cases h
        · rw [if_neg c1] at h ⊢
          by_cases c4 : (Nat.blt 5 d && Nat.blt ((st.map fun v => v.category).sum) 9) = true
          · rw [if_pos c4] at h ⊢
            cases hy : mj_lib (.invokevirtual j, len, a1, b1, v, tl) (pc, a, st, M) with
            | none => rw [hy] at h; cases h
            | some y =>
              rw [hy] at h
              obtain ⟨e1, e2, e3⟩ := mw_lib_weak (b := b) hy
              rw [e1]
              exact ih _ _ _ _ _ _ _ _ _ (by rw [e2, e3]; exact hs) h
          · rw [if_neg c4] at h; cases h
