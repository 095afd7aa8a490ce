/-! THE MINI MACHINE IS SOUND: runs -/
theorem mj_run_def {n d k : Nat} {x : mj_C} {E : mj_E} (ha : mj_at k x.1 = some E) (hs : mj_spec E.1 = false) : mj_run (n + 1) d k x = (match mj_step E x with | some y => mj_run n d k y | none => none) := by
  rw [mj_run, ha]
  obtain ⟨i, e2⟩ := E
  simp only at hs ⊢
  cases i <;> first | (cases hs; done) | rfl
theorem mj_run_ret {n d k : Nat} {x : mj_C} {E : mj_E} {o : mj_R} {M' : mj_M} (ha : mj_at k x.1 = some E) (hs : E.1 = .return_) (h : mj_run (n + 1) d k x = some (o, M')) : x.2.2.1 = [] ∧ mj_ret k none = true ∧ o = .inl none ∧ M' = x.2.2.2 := by
  rw [mj_run, ha] at h
  obtain ⟨i, e2⟩ := E
  simp only at hs
  subst hs
  obtain ⟨pc, lv, st, M⟩ := x
  rcases st with _ | ⟨x1, st⟩
  · simp only at h
    cases hr : mj_ret k none with
    | false => rw [hr] at h; cases h
    | true => rw [hr] at h; cases h; exact ⟨rfl, rfl, rfl, rfl⟩
  · cases h
theorem mj_run_iret {n d k : Nat} {x : mj_C} {E : mj_E} {o : mj_R} {M' : mj_M} (ha : mj_at k x.1 = some E) (hs : E.1 = .ireturn ∨ E.1 = .lreturn) (h : mj_run (n + 1) d k x = some (o, M')) : ∃ v, x.2.2.1 = [v] ∧ mj_ret k (some v) = true ∧ o = .inl (some v) ∧ M' = x.2.2.2 ∧ ((∃ w, v = .int w ∧ E.1 = .ireturn) ∨ ∃ w, v = .long w ∧ E.1 = .lreturn) := by
  rw [mj_run, ha] at h
  obtain ⟨i, e2⟩ := E
  simp only at hs
  obtain ⟨pc, lv, st, M⟩ := x
  rcases st with _ | ⟨x1, _ | ⟨x2, st⟩⟩
  · rcases hs with rfl | rfl <;> cases h
  · rcases hs with rfl | rfl
    · cases x1 <;> (try (cases h; done))
      rename_i w
      simp only at h
      cases hr : mj_ret k (some (.int w)) with
      | false => rw [hr] at h; cases h
      | true => rw [hr] at h; cases h; exact ⟨.int w, rfl, hr, rfl, rfl, Or.inl ⟨w, rfl, rfl⟩⟩
    · cases x1 <;> (try (cases h; done))
      rename_i w
      simp only at h
      cases hr : mj_ret k (some (.long w)) with
      | false => rw [hr] at h; cases h
      | true => rw [hr] at h; cases h; exact ⟨.long w, rfl, hr, rfl, rfl, Or.inr ⟨w, rfl, rfl⟩⟩
  · rcases hs with rfl | rfl <;> cases x1 <;> cases h
theorem mj_run_new {n d k j : Nat} {x : mj_C} {E : mj_E} {o : mj_R} {M' : mj_M} (ha : mj_at k x.1 = some E) (hs : E.1 = .new j) (h : mj_run (n + 1) d k x = some (o, M')) :
    (∃ y, mj_step E x = some y ∧ mj_run n d k y = some (o, M')) ∨ (100 ≤ E.2.2.1 ∧ (mj_hd k).isEmpty = true ∧ (x.2.2.1.map fun v => v.category).sum < 9 ∧ 5 < d ∧ o = .inr (E.2.2.1 - 100) ∧ M' = (x.2.2.2.I, x.2.2.2.L, x.2.2.2.F, x.2.2.2.nr, x.2.2.2.nc + 1, x.2.2.2.ns + 6)) := by
  rw [mj_run, ha] at h
  obtain ⟨i, len, a, b, v, tl⟩ := E
  simp only at hs
  subst hs
  simp only at h
  cases ha1 : Nat.blt a 100 with
  | true =>
    rw [ha1] at h
    simp only [cond_true] at h
    cases hy : mj_step (.new j, len, a, b, v, tl) x with
    | none => rw [hy] at h; cases h
    | some y => rw [hy] at h; exact Or.inl ⟨y, rfl, h⟩
  | false =>
    rw [ha1] at h
    simp only [cond_false] at h
    cases hc : ((mj_hd k).isEmpty && Nat.blt ((x.2.2.1.map fun v => v.category).sum) 9 && Nat.blt 5 d) with
    | false => rw [hc] at h; cases h
    | true =>
      rw [hc] at h
      cases h
      simp only [Bool.and_eq_true, Nat.blt_eq] at hc
      have h9 : ¬ a < 100 := fun q => by rw [← Nat.blt_eq, ha1] at q; cases q
      exact Or.inr ⟨Nat.le_of_not_lt h9, hc.1.1, hc.1.2, hc.2, rfl, rfl⟩
def mj_Le (M M' : mj_M) : Prop := M.nc ≤ M'.nc ∧ M.ns ≤ M'.ns ∧ M.nr ≤ M'.nr
theorem mj_Le.rf (M : mj_M) : mj_Le M M := ⟨Nat.le_refl _, Nat.le_refl _, Nat.le_refl _⟩
theorem mj_Le.trans {A B C : mj_M} (h : mj_Le A B) (k : mj_Le B C) : mj_Le A C := ⟨Nat.le_trans h.1 k.1, Nat.le_trans h.2.1 k.2.1, Nat.le_trans h.2.2 k.2.2⟩
theorem mj_wr_le {M M' : mj_M} {r k : Nat} {ty : FieldType} {v : Value} (h : mj_wr M r k ty v = some M') : mj_Le M M' := by
  obtain ⟨a1, a2, a3, -⟩ := mj_wr_spec h
  exact ⟨by omega, by omega, by omega⟩
theorem mj_asti_le {M M' : mj_M} {t r : Nat} {i x : Int32} (h : mj_asti M t r i x = some M') : mj_Le M M' := by
  unfold mj_asti at h
  cases hb : Nat.blt r M.nr with
  | false => rw [hb] at h; cases h
  | true =>
    rw [hb] at h
    simp only [cond_true] at h
    split at h
    · cases h; exact mj_Le.rf _
    · cases h
theorem mj_astl_le {M M' : mj_M} {r : Nat} {i : Int32} {x : Int64} (h : mj_astl M r i x = some M') : mj_Le M M' := by
  unfold mj_astl at h
  cases hb : Nat.blt r M.nr with
  | false => rw [hb] at h; cases h
  | true =>
    rw [hb] at h
    simp only [cond_true] at h
    split at h
    · cases h; exact mj_Le.rf _
    · cases h
theorem mj_if_le {c : Jvm.ClassFile.Cond} {x y : Int32} {A B : mj_C} {z : mj_C} {M : mj_M} (h : mj_if c x y (some A) (some B) = some z) (hA : A.2.2.2 = M) (hB : B.2.2.2 = M) : mj_Le M z.2.2.2 := by
  unfold mj_if at h
  cases c <;> (simp only at h; split at h <;> cases h <;> first | (rw [hA]; exact mj_Le.rf _) | (rw [hB]; exact mj_Le.rf _))
set_option maxHeartbeats 4000000 in
theorem mj_step_le {E : mj_E} {x y : mj_C} (h : mj_step E x = some y) : mj_Le x.2.2.2 y.2.2.2 := by
  unfold mj_step at h
  split at h
  all_goals first
    | (cases h; done)
    | (cases h; exact mj_Le.rf _)
    | (exact mj_if_le h rfl rfl)
    | (split at h <;> first | (cases h; exact mj_Le.rf _) | (cases h; done))
    | skip
  all_goals first
    | (split at h <;> first | (rename_i hw; cases h; first | exact mj_asti_le hw | exact mj_astl_le hw) | (cases h; done))
    | (split at h <;> first | (cases h; exact ⟨Nat.le_succ _, Nat.le_add_right _ _, Nat.le_succ _⟩) | (cases h; done))
    | (simp only [Bool.cond_eq_ite] at h; split at h <;> first | (cases h; exact mj_Le.rf _) | (split at h <;> first | (cases h; exact mj_Le.rf _) | (cases h; done)) | (cases h; done) | (split at h <;> first | (cases h; exact mj_Le.rf _) | (rename_i hw; cases h; exact mj_wr_le hw) | (cases h; done)))
set_option maxRecDepth 100000 in
theorem mj_lib_le {E : mj_E} {x y : mj_C} (h : mj_lib E x = some y) : y.2.2.2 = x.2.2.2 ∧ y.2.1 = x.2.1 := by
  unfold mj_lib at h
  split at h
  all_goals first
    | (cases h; done)
    | (cases h; exact ⟨rfl, rfl⟩)
    | (split at h <;> first | (simp only [Bool.cond_eq_ite] at h; split at h <;> first | (cases h; exact ⟨rfl, rfl⟩) | (cases h; done)) | (cases h; done))
/-- a call of one of the class's own that returns, unfolded -/
def mj_Cn (n d k : Nat) (x : mj_C) (E : mj_E) (N : Nat) (o : mj_R) (M' : mj_M) : Prop :=
  ∃ (d0 : Nat) (v : Option Value) (M1 : mj_M), d = d0 + 1 ∧ ((mj_args N x.2.2.1).2.map fun v => v.category).sum < 9 ∧ (mj_args N x.2.2.1).1.length = N ∧ (lg_sl (mj_args N x.2.2.1).1).length ≤ mj_ml E.2.2.1 ∧ mj_run n d0 E.2.2.1 (0, lv_args 0 (mj_args N x.2.2.1).1, [], x.2.2.2) = some (.inl v, M1) ∧
    mj_fresh x.2.2.2.nr x.2.1 (mj_args N x.2.2.1).2 = true ∧ mj_run n d k (x.1 + 3, x.2.1, v.toList ++ (mj_args N x.2.2.1).2, M1) = some (o, M')
/-- .. that throws -/
def mj_Ct (n d k : Nat) (x : mj_C) (E : mj_E) (N : Nat) (o : mj_R) (M' : mj_M) : Prop :=
  ∃ (d0 q : Nat) (M1 : mj_M), d = d0 + 1 ∧ ((mj_args N x.2.2.1).2.map fun v => v.category).sum < 9 ∧ (mj_args N x.2.2.1).1.length = N ∧ (lg_sl (mj_args N x.2.2.1).1).length ≤ mj_ml E.2.2.1 ∧ mj_run n d0 E.2.2.1 (0, lv_args 0 (mj_args N x.2.2.1).1, [], x.2.2.2) = some (.inr q, M1) ∧ x.2.2.2.nr = M1.nr ∧ mj_fresh x.2.2.2.nr x.2.1 [] = true ∧
    ((∃ h, mj_hdl x.1 q (mj_hd k) = some h ∧ mj_run n d k (h, x.2.1.filter (fun z => match z.2 with | .ref r => Nat.blt r 1000000 | _ => true), [.ref 1000000], M1) = some (o, M')) ∨ ((mj_hd k).isEmpty = true ∧ o = .inr q ∧ M' = M1))
theorem mj_run_st {n d k j : Nat} {x : mj_C} {E : mj_E} {o : mj_R} {M' : mj_M} (ha : mj_at k x.1 = some E) (hs : E.1 = .invokestatic j) (h : mj_run (n + 1) d k x = some (o, M')) :
    (E.2.2.1 < 1000 ∧ mj_Cn n d k x E E.2.2.2.1 o M') ∨ (1000 ≤ E.2.2.1 ∧ 5 < d ∧ (x.2.2.1.map fun v => v.category).sum < 9 ∧ ∃ y, mj_lib E x = some y ∧ mj_run n d k y = some (o, M')) := by
  rw [mj_run, ha] at h
  obtain ⟨i, len, a, b, v, tl⟩ := E
  simp only at hs
  subst hs
  simp only at h
  cases ha1 : Nat.blt a 1000 with
  | true =>
    rw [ha1] at h
    refine Or.inl ⟨by simpa [Nat.blt_eq] using ha1, ?_⟩
    simp only [cond_true] at h
    cases d with
    | zero => cases h
    | succ d0 =>
      simp only [Bool.cond_eq_ite] at h
      split at h
      · rename_i hc
        simp only [Bool.and_eq_true, Nat.blt_eq, Nat.ble_eq] at hc
        cases hr : mj_run n d0 a (0, lv_args 0 (mj_args b x.2.2.1).1, [], x.2.2.2) with
        | none => rw [hr] at h; cases h
        | some z =>
          obtain ⟨o1, M1⟩ := z
          rw [hr] at h
          cases o1 with
          | inl v1 =>
            simp only at h
            split at h
            · rename_i hf
              exact ⟨d0, v1, M1, rfl, hc.1, Nat.eq_of_beq_eq_true hc.2.1, hc.2.2, hr, hf, h⟩
            · cases h
          | inr q => cases h
      · cases h
  | false =>
    rw [ha1] at h
    have h9 : ¬ a < 1000 := fun q => by rw [← Nat.blt_eq, ha1] at q; cases q
    simp only [cond_false] at h
    cases hc : (Nat.blt 5 d && Nat.blt ((x.2.2.1.map fun v => v.category).sum) 9) with
    | false => rw [hc] at h; cases h
    | true =>
      rw [hc] at h
      simp only [cond_true] at h
      simp only [Bool.and_eq_true, Nat.blt_eq] at hc
      cases hy : mj_lib (.invokestatic j, len, a, b, v, tl) x with
      | none => rw [hy] at h; cases h
      | some y => rw [hy] at h; exact Or.inr ⟨Nat.le_of_not_lt h9, hc.1, hc.2, y, rfl, h⟩
theorem mj_run_sp {n d k j : Nat} {x : mj_C} {E : mj_E} {o : mj_R} {M' : mj_M} (ha : mj_at k x.1 = some E) (hs : E.1 = .invokespecial j) (h : mj_run (n + 1) d k x = some (o, M')) :
    (E.2.2.1 < 1000 ∧ (∃ r rest, (mj_args (E.2.2.2.1 + 1) x.2.2.1).1 = .ref r :: rest ∧ r < x.2.2.2.nr ∧ (mj_sh r).1 = 0 ∧ (mj_sh r).2.1 = ((mj_mt E.2.2.1).map fun q => q.2.2.2.2.1).getD 99) ∧ mj_Cn n d k x E (E.2.2.2.1 + 1) o M') ∨ (1000 ≤ E.2.2.1 ∧ 5 < d ∧ (x.2.2.1.map fun v => v.category).sum < 9 ∧ ∃ y, mj_lib E x = some y ∧ mj_run n d k y = some (o, M')) := by
  rw [mj_run, ha] at h
  obtain ⟨i, len, a, b, v, tl⟩ := E
  simp only at hs
  subst hs
  simp only at h
  cases ha1 : Nat.blt a 1000 with
  | true =>
    rw [ha1] at h
    suffices hh : (∃ r rest, (mj_args (b + 1) x.2.2.1).1 = .ref r :: rest ∧ r < x.2.2.2.nr ∧ (mj_sh r).1 = 0 ∧ (mj_sh r).2.1 = ((mj_mt a).map fun q => q.2.2.2.2.1).getD 99) ∧ mj_Cn n d k x (.invokespecial j, len, a, b, v, tl) (b + 1) o M' from Or.inl ⟨by simpa [Nat.blt_eq] using ha1, hh.1, hh.2⟩
    simp only [cond_true] at h
    cases d with
    | zero => cases h
    | succ d0 =>
      simp only [Bool.cond_eq_ite] at h
      split at h
      · rename_i hc
        simp only [Bool.and_eq_true, Nat.blt_eq, Nat.ble_eq] at hc
        split at h
        rotate_left
        · cases h
        rename_i r rest hargs
        split at h
        rotate_left
        · cases h
        rename_i hrc
        simp only [Bool.and_eq_true, Nat.blt_eq] at hrc
        refine ⟨⟨r, rest, hargs, hrc.1, Nat.eq_of_beq_eq_true hrc.2.1, Nat.eq_of_beq_eq_true hrc.2.2⟩, ?_⟩
        cases hr : mj_run n d0 a (0, lv_args 0 (mj_args (b + 1) x.2.2.1).1, [], x.2.2.2) with
        | none => rw [hr] at h; cases h
        | some z =>
          obtain ⟨o1, M1⟩ := z
          rw [hr] at h
          cases o1 with
          | inl v1 =>
            simp only at h
            split at h
            · rename_i hf
              exact ⟨d0, v1, M1, rfl, hc.1, Nat.eq_of_beq_eq_true hc.2.1, hc.2.2, hr, hf, h⟩
            · cases h
          | inr q => cases h
      · cases h
  | false =>
    rw [ha1] at h
    have h9 : ¬ a < 1000 := fun q => by rw [← Nat.blt_eq, ha1] at q; cases q
    simp only [cond_false] at h
    cases hc : (Nat.blt 5 d && Nat.blt ((x.2.2.1.map fun v => v.category).sum) 9) with
    | false => rw [hc] at h; cases h
    | true =>
      rw [hc] at h
      simp only [cond_true] at h
      simp only [Bool.and_eq_true, Nat.blt_eq] at hc
      cases hy : mj_lib (.invokespecial j, len, a, b, v, tl) x with
      | none => rw [hy] at h; cases h
      | some y => rw [hy] at h; exact Or.inr ⟨Nat.le_of_not_lt h9, hc.1, hc.2, y, rfl, h⟩
theorem mj_run_vi {n d k j : Nat} {x : mj_C} {E : mj_E} {o : mj_R} {M' : mj_M} (ha : mj_at k x.1 = some E) (hs : E.1 = .invokevirtual j) (h : mj_run (n + 1) d k x = some (o, M')) :
    (E.2.2.1 < 1000 ∧ (∃ r rest, (mj_args (E.2.2.2.1 + 1) x.2.2.1).1 = .ref r :: rest ∧ r < x.2.2.2.nr ∧ (mj_sh r).1 = 0 ∧ (mj_sh r).2.1 = ((mj_mt E.2.2.1).map fun q => q.2.2.2.2.1).getD 99) ∧ (mj_Cn n d k x E (E.2.2.2.1 + 1) o M' ∨ mj_Ct n d k x E (E.2.2.2.1 + 1) o M')) ∨ (1000 ≤ E.2.2.1 ∧ 5 < d ∧ (x.2.2.1.map fun v => v.category).sum < 9 ∧ ∃ y, mj_lib E x = some y ∧ mj_run n d k y = some (o, M')) := by
  rw [mj_run, ha] at h
  obtain ⟨i, len, a, b, v, tl⟩ := E
  simp only at hs
  subst hs
  simp only at h
  cases ha1 : Nat.blt a 1000 with
  | true =>
    rw [ha1] at h
    suffices hh : (∃ r rest, (mj_args (b + 1) x.2.2.1).1 = .ref r :: rest ∧ r < x.2.2.2.nr ∧ (mj_sh r).1 = 0 ∧ (mj_sh r).2.1 = ((mj_mt a).map fun q => q.2.2.2.2.1).getD 99) ∧ (mj_Cn n d k x (.invokevirtual j, len, a, b, v, tl) (b + 1) o M' ∨ mj_Ct n d k x (.invokevirtual j, len, a, b, v, tl) (b + 1) o M') from Or.inl ⟨by simpa [Nat.blt_eq] using ha1, hh.1, hh.2⟩
    simp only [cond_true] at h
    cases d with
    | zero => cases h
    | succ d0 =>
      simp only [Bool.cond_eq_ite] at h
      split at h
      · rename_i hc
        simp only [Bool.and_eq_true, Nat.blt_eq, Nat.ble_eq] at hc
        split at h
        rotate_left
        · cases h
        rename_i r rest hargs
        split at h
        rotate_left
        · cases h
        rename_i hrc
        simp only [Bool.and_eq_true, Nat.blt_eq] at hrc
        refine ⟨⟨r, rest, hargs, hrc.1, Nat.eq_of_beq_eq_true hrc.2.1, Nat.eq_of_beq_eq_true hrc.2.2⟩, ?_⟩
        cases hr : mj_run n d0 a (0, lv_args 0 (mj_args (b + 1) x.2.2.1).1, [], x.2.2.2) with
        | none => rw [hr] at h; cases h
        | some z =>
          obtain ⟨o1, M1⟩ := z
          rw [hr] at h
          cases o1 with
          | inl v1 =>
            simp only at h
            split at h
            · rename_i hf
              exact Or.inl ⟨d0, v1, M1, rfl, hc.1, Nat.eq_of_beq_eq_true hc.2.1, hc.2.2, hr, hf, h⟩
            · cases h
          | inr q =>
            simp only at h
            split at h
            · rename_i hf
              refine Or.inr ⟨d0, q, M1, rfl, hc.1, Nat.eq_of_beq_eq_true hc.2.1, hc.2.2, hr, Nat.eq_of_beq_eq_true (Bool.and_eq_true _ _ |>.mp hf).1, (Bool.and_eq_true _ _ |>.mp hf).2, ?_⟩
              cases hh : mj_hdl x.1 q (mj_hd k) with
              | none =>
                rw [hh] at h
                simp only at h
                split at h
                · rename_i he
                  cases h
                  exact Or.inr ⟨he, rfl, rfl⟩
                · cases h
              | some hp => rw [hh] at h; exact Or.inl ⟨hp, rfl, h⟩
            · cases h
      · cases h
  | false =>
    rw [ha1] at h
    have h9 : ¬ a < 1000 := fun q => by rw [← Nat.blt_eq, ha1] at q; cases q
    simp only [cond_false] at h
    cases hc : (Nat.blt 5 d && Nat.blt ((x.2.2.1.map fun v => v.category).sum) 9) with
    | false => rw [hc] at h; cases h
    | true =>
      rw [hc] at h
      simp only [cond_true] at h
      simp only [Bool.and_eq_true, Nat.blt_eq] at hc
      cases hy : mj_lib (.invokevirtual j, len, a, b, v, tl) x with
      | none => rw [hy] at h; cases h
      | some y => rw [hy] at h; exact Or.inr ⟨Nat.le_of_not_lt h9, hc.1, hc.2, y, rfl, h⟩
theorem mj_spec_or {i : Instr} (h : mj_spec i = true) : i = .return_ ∨ (i = .ireturn ∨ i = .lreturn) ∨ (∃ j, i = .new j) ∨ (∃ j, i = .invokestatic j) ∨ (∃ j, i = .invokespecial j) ∨ ∃ j, i = .invokevirtual j := by
  cases i <;> first | (cases h; done) | simp
theorem mj_run_le : ∀ (n d k : Nat) (x : mj_C) (o : mj_R) (M' : mj_M), mj_run n d k x = some (o, M') → mj_Le x.2.2.2 M' := by
  intro n
  induction n with
  | zero => intro d k x o M' h; cases h
  | succ n ih =>
    intro d k x o M' h
    cases ha : mj_at k x.1 with
    | none => rw [mj_run, ha] at h; cases h
    | some E =>
      cases hs : mj_spec E.1 with
      | false =>
        rw [mj_run_def ha hs] at h
        cases hy : mj_step E x with
        | none => rw [hy] at h; cases h
        | some y => rw [hy] at h; exact (mj_step_le hy).trans (ih _ _ _ _ _ h)
      | true =>
        have hcl : ∀ N, mj_Cn n d k x E N o M' → mj_Le x.2.2.2 M' := by
          rintro N ⟨d0, v, M1, -, -, -, -, h1, -, h3⟩
          exact (ih _ _ _ _ _ h1).trans (ih _ _ _ _ _ h3)
        have hct : ∀ N, mj_Ct n d k x E N o M' → mj_Le x.2.2.2 M' := by
          rintro N ⟨d0, q, M1, -, -, -, -, h1, -, -, ⟨hp, -, h3⟩ | ⟨-, -, rfl⟩⟩
          · exact (ih _ _ _ _ _ h1).trans (ih _ _ _ _ _ h3)
          · have h9 := ih _ _ _ _ _ h1
            exact h9
        have hlib : ∀ y, mj_lib E x = some y → mj_run n d k y = some (o, M') → mj_Le x.2.2.2 M' := fun y hy h3 => by
          have := ih _ _ _ _ _ h3
          rw [(mj_lib_le hy).1] at this
          exact this
        rcases mj_spec_or hs with e1 | e1 | ⟨j, e1⟩ | ⟨j, e1⟩ | ⟨j, e1⟩ | ⟨j, e1⟩
        · obtain ⟨-, -, -, rfl⟩ := mj_run_ret ha e1 h
          exact mj_Le.rf _
        · obtain ⟨v, -, -, -, rfl, -⟩ := mj_run_iret ha e1 h
          exact mj_Le.rf _
        · rcases mj_run_new ha e1 h with ⟨y, hy, h3⟩ | ⟨-, -, -, -, -, rfl⟩
          · exact (mj_step_le hy).trans (ih _ _ _ _ _ h3)
          · exact ⟨Nat.le_succ _, Nat.le_add_right _ _, Nat.le_refl _⟩
        · rcases mj_run_st ha e1 h with ⟨-, h3⟩ | ⟨-, -, -, y, hy, h3⟩
          · exact hcl _ h3
          · exact hlib y hy h3
        · rcases mj_run_sp ha e1 h with ⟨-, -, h3⟩ | ⟨-, -, -, y, hy, h3⟩
          · exact hcl _ h3
          · exact hlib y hy h3
        · rcases mj_run_vi ha e1 h with ⟨-, -, h3 | h3⟩ | ⟨-, -, -, y, hy, h3⟩
          · exact hcl _ h3
          · exact hct _ h3
          · exact hlib y hy h3
