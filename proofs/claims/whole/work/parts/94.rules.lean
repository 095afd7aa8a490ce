/-! RULES: from the bytecode to functions -/
/-- more fuel, the same end -/
theorem mj_mono : ∀ (n d k : Nat) (x : mj_C) (o : mj_R) (M' : mj_M), mj_run n d k x = some (o, M') → mj_run (n + 1) d k x = some (o, M') := by
  intro n
  induction n with
  | zero => intro d k x o M' h; cases h
  | succ n ih =>
    intro d k x o M' h
    cases ha : mj_at k x.1 with
    | none => rw [mj_run, ha] at h; cases h
    | some E =>
    cases hs : mj_spec E.1 with
    | false =>
      rw [mj_run_def ha hs] at h ⊢
      cases hy : mj_step E x with
      | none => rw [hy] at h; cases h
      | some y => rw [hy] at h; exact ih _ _ _ _ _ h
    | true =>
      rw [mj_run, ha] at h ⊢
      obtain ⟨i, len, a, b, v, tl⟩ := E
      cases i <;> (try (cases hs; done))
      case return_ =>
        generalize x.2.2.1 = st at h ⊢
        rcases st with _ | ⟨x1, st⟩
        · exact h
        · cases h
      case ireturn =>
        generalize x.2.2.1 = st at h ⊢
        rcases st with _ | ⟨x1, _ | ⟨x2, st⟩⟩
        · cases h
        · cases x1 <;> first | exact h | (cases h; done)
        · cases x1 <;> cases h
      case lreturn =>
        generalize x.2.2.1 = st at h ⊢
        rcases st with _ | ⟨x1, _ | ⟨x2, st⟩⟩
        · cases h
        · cases x1 <;> first | exact h | (cases h; done)
        · cases x1 <;> cases h
      case new j =>
        simp only at h ⊢
        simp only [Bool.cond_eq_ite] at h ⊢
        by_cases c1 : Nat.blt a 100 = true
        · rw [if_pos c1] at h ⊢
          cases hy : mj_step (.new j, len, a, b, v, tl) x with
          | none => rw [hy] at h; cases h
          | some y => rw [hy] at h; exact ih _ _ _ _ _ h
        · rw [if_neg c1] at h ⊢; exact h
      case invokestatic j =>
        simp only at h ⊢
        simp only [Bool.cond_eq_ite] at h ⊢
        by_cases c1 : Nat.blt a 1000 = true
        · rw [if_pos c1] at h ⊢
          cases d with
          | zero => cases h
          | succ d0 =>
            simp only at h ⊢
            by_cases c2 : (Nat.blt (((mj_args b x.2.2.1).2.map fun v => v.category).sum) 9 && (Nat.beq (mj_args b x.2.2.1).1.length b && Nat.ble (lg_sl (mj_args b x.2.2.1).1).length (mj_ml a))) = true
            · rw [if_pos c2] at h ⊢
              cases hr : mj_run n d0 a (0, lv_args 0 (mj_args b x.2.2.1).1, [], x.2.2.2) with
              | none => rw [hr] at h; cases h
              | some q =>
                obtain ⟨o1, M1⟩ := q
                rw [hr] at h
                rw [ih _ _ _ _ _ hr]
                cases o1 with
                | inr q => cases h
                | inl v1 =>
                  simp only at h ⊢
                  by_cases c3 : mj_fresh x.2.2.2.nr x.2.1 (mj_args b x.2.2.1).2 = true
                  · rw [if_pos c3] at h ⊢; exact ih _ _ _ _ _ h
                  · rw [if_neg c3] at h; cases h
            · rw [if_neg c2] at h; cases h
        · rw [if_neg c1] at h ⊢
          by_cases c4 : (Nat.blt 5 d && Nat.blt ((x.2.2.1.map fun v => v.category).sum) 9) = true
          · rw [if_pos c4] at h ⊢
            cases hy : mj_lib (.invokestatic j, len, a, b, v, tl) x with
            | none => rw [hy] at h; cases h
            | some y => rw [hy] at h; exact ih _ _ _ _ _ h
          · rw [if_neg c4] at h; cases h
      case invokespecial j =>
        simp only at h ⊢
        simp only [Bool.cond_eq_ite] at h ⊢
        by_cases c1 : Nat.blt a 1000 = true
        · rw [if_pos c1] at h ⊢
          cases d with
          | zero => cases h
          | succ d0 =>
            simp only at h ⊢
            by_cases c2 : (Nat.blt (((mj_args (b + 1) x.2.2.1).2.map fun v => v.category).sum) 9 && (Nat.beq (mj_args (b + 1) x.2.2.1).1.length (b + 1) && Nat.ble (lg_sl (mj_args (b + 1) x.2.2.1).1).length (mj_ml a))) = true
            · rw [if_pos c2] at h ⊢
              generalize hc : (mj_args (b + 1) x.2.2.1).1 = as at h ⊢
              rcases as with _ | ⟨w, ws⟩
              · cases h
              · cases w <;> (try (cases h; done))
                rename_i r
                simp only at h ⊢
                by_cases c5 : (Nat.blt r x.2.2.2.nr && (Nat.beq (mj_sh r).1 0 && Nat.beq (mj_sh r).2.1 (((mj_mt a).map fun q => q.2.2.2.2.1).getD 99))) = true
                · rw [if_pos c5] at h ⊢
                  cases hr : mj_run n d0 a (0, lv_args 0 (.ref r :: ws), [], x.2.2.2) with
                  | none => rw [hr] at h; cases h
                  | some q =>
                    obtain ⟨o1, M1⟩ := q
                    rw [hr] at h
                    rw [ih _ _ _ _ _ hr]
                    cases o1 with
                    | inr q =>
                      simp only at h ⊢
                      first
                        | (cases h; done)
                        | (by_cases c6 : (Nat.beq x.2.2.2.nr M1.nr && mj_fresh x.2.2.2.nr x.2.1 []) = true
                           · rw [if_pos c6] at h ⊢
                             cases hh : mj_hdl x.1 q (mj_hd k) with
                             | none => rw [hh] at h; exact h
                             | some hp => rw [hh] at h; exact ih _ _ _ _ _ h
                           · rw [if_neg c6] at h; cases h)
                    | inl v1 =>
                      simp only at h ⊢
                      by_cases c3 : mj_fresh x.2.2.2.nr x.2.1 (mj_args (b + 1) x.2.2.1).2 = true
                      · rw [if_pos c3] at h ⊢; exact ih _ _ _ _ _ h
                      · rw [if_neg c3] at h; cases h
                · rw [if_neg c5] at h; cases h
            · rw [if_neg c2] at h; cases h
        · rw [if_neg c1] at h ⊢
          by_cases c4 : (Nat.blt 5 d && Nat.blt ((x.2.2.1.map fun v => v.category).sum) 9) = true
          · rw [if_pos c4] at h ⊢
            cases hy : mj_lib (.invokespecial j, len, a, b, v, tl) x with
            | none => rw [hy] at h; cases h
            | some y => rw [hy] at h; exact ih _ _ _ _ _ h
          · rw [if_neg c4] at h; cases h
      case invokevirtual j =>
        simp only at h ⊢
        simp only [Bool.cond_eq_ite] at h ⊢
        by_cases c1 : Nat.blt a 1000 = true
        · rw [if_pos c1] at h ⊢
          cases d with
          | zero => cases h
          | succ d0 =>
            simp only at h ⊢
            by_cases c2 : (Nat.blt (((mj_args (b + 1) x.2.2.1).2.map fun v => v.category).sum) 9 && (Nat.beq (mj_args (b + 1) x.2.2.1).1.length (b + 1) && Nat.ble (lg_sl (mj_args (b + 1) x.2.2.1).1).length (mj_ml a))) = true
            · rw [if_pos c2] at h ⊢
              generalize hc : (mj_args (b + 1) x.2.2.1).1 = as at h ⊢
              rcases as with _ | ⟨w, ws⟩
              · cases h
              · cases w <;> (try (cases h; done))
                rename_i r
                simp only at h ⊢
                by_cases c5 : (Nat.blt r x.2.2.2.nr && (Nat.beq (mj_sh r).1 0 && Nat.beq (mj_sh r).2.1 (((mj_mt a).map fun q => q.2.2.2.2.1).getD 99))) = true
                · rw [if_pos c5] at h ⊢
                  cases hr : mj_run n d0 a (0, lv_args 0 (.ref r :: ws), [], x.2.2.2) with
                  | none => rw [hr] at h; cases h
                  | some q =>
                    obtain ⟨o1, M1⟩ := q
                    rw [hr] at h
                    rw [ih _ _ _ _ _ hr]
                    cases o1 with
                    | inr q =>
                      simp only at h ⊢
                      first
                        | (cases h; done)
                        | (by_cases c6 : (Nat.beq x.2.2.2.nr M1.nr && mj_fresh x.2.2.2.nr x.2.1 []) = true
                           · rw [if_pos c6] at h ⊢
                             cases hh : mj_hdl x.1 q (mj_hd k) with
                             | none => rw [hh] at h; exact h
                             | some hp => rw [hh] at h; exact ih _ _ _ _ _ h
                           · rw [if_neg c6] at h; cases h)
                    | inl v1 =>
                      simp only at h ⊢
                      by_cases c3 : mj_fresh x.2.2.2.nr x.2.1 (mj_args (b + 1) x.2.2.1).2 = true
                      · rw [if_pos c3] at h ⊢; exact ih _ _ _ _ _ h
                      · rw [if_neg c3] at h; cases h
                · rw [if_neg c5] at h; cases h
            · rw [if_neg c2] at h; cases h
        · rw [if_neg c1] at h ⊢
          by_cases c4 : (Nat.blt 5 d && Nat.blt ((x.2.2.1.map fun v => v.category).sum) 9) = true
          · rw [if_pos c4] at h ⊢
            cases hy : mj_lib (.invokevirtual j, len, a, b, v, tl) x with
            | none => rw [hy] at h; cases h
            | some y => rw [hy] at h; exact ih _ _ _ _ _ h
          · rw [if_neg c4] at h; cases h
theorem mj_mono' {n m d k : Nat} {x : mj_C} {o : mj_R} {M' : mj_M} (h : mj_run n d k x = some (o, M')) (hm : n ≤ m) : mj_run m d k x = some (o, M') := by
  induction hm with
  | refl => exact h
  | step _ ih => exact mj_mono _ _ _ _ _ _ ih
/-- a call of a method of the program, seen from the caller: callee, arguments, what stays on the stack -/
def mj_ca (k : Nat) (c : mj_C) : Option (Nat × List Value × List Value) :=
  match mj_at k c.1 with
  | none => none
  | some e =>
    match e.1 with
    | .invokestatic _ => bif Nat.blt e.2.2.1 1000 && (Nat.blt (((mj_args e.2.2.2.1 c.2.2.1).2.map fun v => v.category).sum) 9 && (Nat.beq (mj_args e.2.2.2.1 c.2.2.1).1.length e.2.2.2.1 && Nat.ble (lg_sl (mj_args e.2.2.2.1 c.2.2.1).1).length (mj_ml e.2.2.1)) && mj_fresh c.2.2.2.nr c.2.1 (mj_args e.2.2.2.1 c.2.2.1).2) then some (e.2.2.1, (mj_args e.2.2.2.1 c.2.2.1).1, (mj_args e.2.2.2.1 c.2.2.1).2) else none
    | .invokevirtual _ => bif Nat.blt e.2.2.1 1000 && (Nat.blt (((mj_args (e.2.2.2.1 + 1) c.2.2.1).2.map fun v => v.category).sum) 9 && (Nat.beq (mj_args (e.2.2.2.1 + 1) c.2.2.1).1.length (e.2.2.2.1 + 1) && Nat.ble (lg_sl (mj_args (e.2.2.2.1 + 1) c.2.2.1).1).length (mj_ml e.2.2.1)) && mj_fresh c.2.2.2.nr c.2.1 (mj_args (e.2.2.2.1 + 1) c.2.2.1).2) then
        (match (mj_args (e.2.2.2.1 + 1) c.2.2.1).1 with
        | .ref r :: _ => bif Nat.blt r c.2.2.2.nr && (Nat.beq (mj_sh r).1 0 && Nat.beq (mj_sh r).2.1 (((mj_mt e.2.2.1).map fun q => q.2.2.2.2.1).getD 99)) then some (e.2.2.1, (mj_args (e.2.2.2.1 + 1) c.2.2.1).1, (mj_args (e.2.2.2.1 + 1) c.2.2.1).2) else none
        | _ => none) else none
    | _ => none
def mj_vi (k pc : Nat) : Bool := match mj_at k pc with
  | some e => (match e.1 with | .invokevirtual _ => true | _ => false)
  | none => false
theorem mj_run_ca {n d k : Nat} {c : mj_C} {k' : Nat} {as rest : List Value} {v : Option Value} {M : mj_M} (h : mj_ca k c = some (k', as, rest)) (hr : mj_run n d k' (0, lv_args 0 as, [], c.2.2.2) = some (.inl v, M)) : mj_run (n + 1) (d + 1) k c = mj_run n (d + 1) k (c.1 + 3, c.2.1, v.toList ++ rest, M) := by
  unfold mj_ca at h
  rw [mj_run]
  cases ha : mj_at k c.1 with
  | none => rw [ha] at h; cases h
  | some E =>
    rw [ha] at h
    obtain ⟨i, len, a, b, v0, tl⟩ := E
    cases i <;> (try (cases h; done))
    case invokevirtual j =>
      simp only [Bool.cond_eq_ite] at h ⊢
      split at h
      · rename_i hc
        simp only [Bool.and_eq_true] at hc
        obtain ⟨c1, ⟨c2, c3⟩, c4⟩ := hc
        split at h
        · rename_i r ws hcs
          split at h
          · rename_i h5
            cases h
            rw [if_pos c1]
            simp only [hcs] at hr c2 c3 c4 h5 ⊢
            rw [if_pos (by simp only [Bool.and_eq_true]; exact ⟨c2, c3⟩)]
            rw [if_pos h5, hr]
            simp only
            rw [if_pos c4]
          · cases h
        · cases h
      · cases h
    case invokestatic j =>
      simp only [Bool.cond_eq_ite] at h ⊢
      split at h
      · rename_i hc
        simp only [Bool.and_eq_true] at hc
        obtain ⟨c1, ⟨c2, c3⟩, c4⟩ := hc
        cases h
        rw [if_pos c1]
        rw [if_pos (by simp only [Bool.and_eq_true]; exact ⟨c2, c3⟩), hr]
        simp only
        rw [if_pos c4]
      · cases h
theorem mj_run_cx {n d k : Nat} {c : mj_C} {k' : Nat} {as rest : List Value} {q : Nat} {M : mj_M} (h : mj_ca k c = some (k', as, rest)) (hv : mj_vi k c.1 = true) (hn : c.2.2.2.nr = M.nr) (hr : mj_run n d k' (0, lv_args 0 as, [], c.2.2.2) = some (.inr q, M)) : mj_run (n + 1) (d + 1) k c = (match mj_hdl c.1 q (mj_hd k) with
                    | some h => mj_run n (d + 1) k (h, c.2.1.filter (fun z => match z.2 with | .ref r => Nat.blt r 1000000 | _ => true), [.ref 1000000], M)
                    | none => bif (mj_hd k).isEmpty then some (.inr q, M) else none) := by
  unfold mj_ca at h
  unfold mj_vi at hv
  rw [mj_run]
  cases ha : mj_at k c.1 with
  | none => rw [ha] at h; cases h
  | some E =>
    rw [ha] at h hv
    obtain ⟨i, len, a, b, v0, tl⟩ := E
    cases i <;> (try (cases h; done))
    case invokevirtual j =>
      simp only [Bool.cond_eq_ite] at h ⊢
      split at h
      · rename_i hc
        simp only [Bool.and_eq_true] at hc
        obtain ⟨c1, ⟨c2, c3⟩, c4⟩ := hc
        split at h
        · rename_i r ws hcs
          split at h
          · rename_i h5
            cases h
            rw [if_pos c1]
            have c5 : mj_fresh c.2.2.2.nr c.2.1 [] = true := by
              unfold mj_fresh at c4 ⊢
              simp only [Bool.and_eq_true] at c4 ⊢
              exact ⟨c4.1, rfl⟩
            simp only [hcs] at hr c2 c3 c4 h5 ⊢
            rw [if_pos (by simp only [Bool.and_eq_true]; exact ⟨c2, c3⟩)]
            rw [if_pos h5, hr]
            simp only
            rw [if_pos (by rw [← hn, Nat.beq_refl, c5]; rfl)]
            rfl
          · cases h
        · cases h
      · cases h
    case invokestatic j => cases hv
