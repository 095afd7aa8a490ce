/-! .. jumps, calls, tries -/
section
variable {ρ : Type} {den : ρ → mj_R × mj_M} {need k : Nat} {c : mj_C} {r A B : Option ρ} {pc : Nat} {lv : mj_L} {st : List Value} {M : mj_M} {s : Nat} {t : mw_T}
theorem mw_jp (l0 : mj_L) (h1 : l0.map (fun q => mj_get lv q.1) = l0.map (fun q => some q.2)) (h2 : mw_nd (lv.map (fun q => q.1)) = true) (h3 : lv.all (fun q => mj_fr 86 q.2) = true) (h : mw_W den need k (pc, l0, st, mw_E s t) r) : mw_W den need k (pc, lv, st, mw_E s t) r := by
  intro d hd z hz
  obtain ⟨n, hn⟩ := h d hd z hz
  refine ⟨n, mw_run_weak n d k pc l0 lv st _ _ _ ⟨fun q hq => ?_, fun q hq => Or.inr (List.all_eq_true.mp h3 q hq), mw_nd_nodup h2⟩ hn⟩
  have := List.map_inj_left.mp h1 q hq
  exact mw_mem_get this
theorem mw_cr {β : Type} {em' : β → Option Value} {need' k' : Nat} {as rest : List Value} {lv' : mj_L} {r' : mw_X β} {v : β} {t' : mw_T} {z : mj_R × mj_M} {d : Nat}
    (h : mj_ca k (pc, lv, st, mw_E s t) = some (k', as, rest)) (hl : lv_args 0 as = lv') (hc : mw_W (mw_d3 em' s) need' k' (0, lv', [], mw_E s t) r') (hn : need' + 1 ≤ need) (hd : need ≤ d) (e : r' = some (.inl v, t'))
    (hk : mj_Rn d k (pc + 3, lv, (em' v).toList ++ rest, mw_E s t') z.1 z.2) : mj_Rn d k (pc, lv, st, mw_E s t) z.1 z.2 := by
  obtain ⟨d0, rfl⟩ : ∃ d0, d = d0 + 1 := ⟨d - 1, by omega⟩
  obtain ⟨n1, h1⟩ := hc d0 (by omega) _ e
  obtain ⟨n2, h2⟩ := hk
  refine ⟨max n1 n2 + 1, ?_⟩
  subst hl
  rw [mj_run_ca h (mj_mono' h1 (Nat.le_max_left _ _))]
  exact mj_mono' h2 (Nat.le_max_right _ _)
theorem mw_cx {β : Type} {em' : β → Option Value} {need' k' : Nat} {as rest : List Value} {lv' : mj_L} {r' : mw_X β} {q : Nat} {t' : mw_T} {d : Nat}
    (h : mj_ca k (pc, lv, st, mw_E s t) = some (k', as, rest)) (hv : mj_vi k pc = true) (he : mj_hd k = []) (hl : lv_args 0 as = lv') (hc : mw_W (mw_d3 em' s) need' k' (0, lv', [], mw_E s t) r') (hn : need' + 1 ≤ need) (hd : need ≤ d) (e : r' = some (.inr q, t')) : mj_Rn d k (pc, lv, st, mw_E s t) (.inr q) (mw_E s t') := by
  obtain ⟨d0, rfl⟩ : ∃ d0, d = d0 + 1 := ⟨d - 1, by omega⟩
  obtain ⟨n1, h1⟩ := hc d0 (by omega) _ e
  refine ⟨n1 + 1, ?_⟩
  subst hl
  rw [mj_run_cx (q := q) (M := mw_E s t') h hv rfl h1, he]
  rfl
/-- calls of the class's own methods that return an int, a long, nothing -/
theorem mw_cg {α β : Type} {em : α → Option Value} {em' : β → Option Value} {need' k' : Nat} {lv' : mj_L} {r' : mw_X β} {g : β → mw_T → mw_X α} (as rest : List Value)
    (h : mj_ca k (pc, lv, st, mw_E s t) = some (k', as, rest)) (hv : mj_vi k pc = true) (he : mj_hd k = []) (hl : lv_args 0 as = lv') (hc : mw_W (mw_d3 em' s) need' k' (0, lv', [], mw_E s t) r') (hn : need' + 1 ≤ need)
    (hg : ∀ v t', mw_W (mw_d3 em s) need k (pc + 3, lv, (em' v).toList ++ rest, mw_E s t') (g v t')) : mw_W (mw_d3 em s) need k (pc, lv, st, mw_E s t) (mw_b r' g) := by
  intro d hd z hz
  unfold mw_b at hz
  split at hz
  · exact mw_cr h hl hc hn hd rfl (hg _ _ d hd z hz)
  · cases hz
    exact mw_cx h hv he hl hc hn hd rfl
  · cases hz
theorem mw_cgs {α β : Type} {em : α → Option Value} {em' : β → Option Value} {need' k' : Nat} {lv' : mj_L} {r' : mw_X β} {g : β → mw_T → mw_X α} (as rest : List Value)
    (h : mj_ca k (pc, lv, st, mw_E s t) = some (k', as, rest)) (hl : lv_args 0 as = lv') (hc : mw_W (mw_d3 em' s) need' k' (0, lv', [], mw_E s t) r') (hn : need' + 1 ≤ need)
    (hg : ∀ v t', mw_W (mw_d3 em s) need k (pc + 3, lv, (em' v).toList ++ rest, mw_E s t') (g v t')) : mw_W (mw_d3 em s) need k (pc, lv, st, mw_E s t) (mw_bs r' g) := by
  intro d hd z hz
  unfold mw_bs at hz
  split at hz
  · exact mw_cr h hl hc hn hd rfl (hg _ _ d hd z hz)
  · cases hz
theorem mw_cg4 {α β : Type} {em : α → Option Value} {em' : β → Option Value} {need' k' : Nat} {lv' : mj_L} {r' : mw_X β} {g : β → mw_T → mw_Y α} (as rest : List Value)
    (h : mj_ca k (pc, lv, st, mw_E s t) = some (k', as, rest)) (hv : mj_vi k pc = true) (he : mj_hd k = []) (hl : lv_args 0 as = lv') (hc : mw_W (mw_d3 em' s) need' k' (0, lv', [], mw_E s t) r') (hn : need' + 1 ≤ need)
    (hg : ∀ v t', mw_W (mw_d4 em) need k (pc + 3, lv, (em' v).toList ++ rest, mw_E s t') (g v t')) : mw_W (mw_d4 em) need k (pc, lv, st, mw_E s t) (mw_b4 s r' g) := by
  intro d hd z hz
  unfold mw_b4 at hz
  split at hz
  · exact mw_cr h hl hc hn hd rfl (hg _ _ d hd z hz)
  · cases hz
    exact mw_cx h hv he hl hc hn hd rfl
  · cases hz
theorem mw_cg4s {α β : Type} {em : α → Option Value} {em' : β → Option Value} {need' k' : Nat} {lv' : mj_L} {r' : mw_X β} {g : β → mw_T → mw_Y α} (as rest : List Value)
    (h : mj_ca k (pc, lv, st, mw_E s t) = some (k', as, rest)) (hl : lv_args 0 as = lv') (hc : mw_W (mw_d3 em' s) need' k' (0, lv', [], mw_E s t) r') (hn : need' + 1 ≤ need)
    (hg : ∀ v t', mw_W (mw_d4 em) need k (pc + 3, lv, (em' v).toList ++ rest, mw_E s t') (g v t')) : mw_W (mw_d4 em) need k (pc, lv, st, mw_E s t) (mw_b4s s r' g) := by
  intro d hd z hz
  unfold mw_b4s at hz
  split at hz
  · exact mw_cr h hl hc hn hd rfl (hg _ _ d hd z hz)
  · cases hz
/-- a try around a call: the handlers -/
theorem mw_cxt {β : Type} {em' : β → Option Value} {need' k' : Nat} {as rest : List Value} {lv' : mj_L} {r' : mw_X β} {q hp : Nat} {t' : mw_T} {d : Nat} {z : mj_R × mj_M}
    (h : mj_ca k (pc, lv, st, mw_E s t) = some (k', as, rest)) (hv : mj_vi k pc = true) (hh : mj_hdl pc q (mj_hd k) = some hp) (hl : lv_args 0 as = lv') (hc : mw_W (mw_d3 em' s) need' k' (0, lv', [], mw_E s t) r') (hn : need' + 1 ≤ need) (hd : need ≤ d) (e : r' = some (.inr q, t'))
    (hk : mj_Rn d k (hp, lv.filter (fun z => match z.2 with | .ref r => Nat.blt r 1000000 | _ => true), [.ref 1000000], mw_E s t') z.1 z.2) : mj_Rn d k (pc, lv, st, mw_E s t) z.1 z.2 := by
  obtain ⟨d0, rfl⟩ : ∃ d0, d = d0 + 1 := ⟨d - 1, by omega⟩
  obtain ⟨n1, h1⟩ := hc d0 (by omega) _ e
  obtain ⟨n2, h2⟩ := hk
  refine ⟨max n1 n2 + 1, ?_⟩
  subst hl
  rw [mj_run_cx (q := q) (M := mw_E s t') h hv rfl (mj_mono' h1 (Nat.le_max_left _ _)), hh]
  exact mj_mono' h2 (Nat.le_max_right _ _)
/-- what is done at an exception of kind q -/
def mw_H {ρ : Type} (den : ρ → mj_R × mj_M) (need k pc : Nat) (lv : mj_L) (M : mj_M) (q : Nat) (r : Option ρ) : Prop := ∀ z, r = some z → ∃ hp, mj_hdl pc q (mj_hd k) = some hp ∧ mw_W den need k (hp, lv.filter (fun z => match z.2 with | .ref r => Nat.blt r 1000000 | _ => true), [.ref 1000000], M) r
theorem mw_hn {q : Nat} : mw_H den need k pc lv M q none := fun _ h => by cases h
theorem mw_hq {q : Nat} (q0 hp : Nat) (l0 : mj_L) (hl : lv.filter (fun z => match z.2 with | .ref r => Nat.blt r 1000000 | _ => true) = l0) (hh : mj_hdl pc q0 (mj_hd k) = some hp) (hA : mw_W den need k (hp, l0, [.ref 1000000], M) A) (hB : mw_H den need k pc lv M q B) : mw_H den need k pc lv M q (if q = q0 then A else B) := by
  intro z hz
  by_cases e : q = q0
  · subst e; subst hl
    rw [if_pos rfl] at hz ⊢
    exact ⟨hp, hh, hA⟩
  · rw [if_neg e] at hz ⊢
    exact hB z hz
theorem mw_tg {α β : Type} {em : α → Option Value} {em' : β → Option Value} {need' k' : Nat} {lv' : mj_L} {r' : mw_X β} {g : β → mw_T → mw_X α} {x : Nat → mw_T → mw_X α} (as rest : List Value)
    (h : mj_ca k (pc, lv, st, mw_E s t) = some (k', as, rest)) (hv : mj_vi k pc = true) (hl : lv_args 0 as = lv') (hc : mw_W (mw_d3 em' s) need' k' (0, lv', [], mw_E s t) r') (hn : need' + 1 ≤ need)
    (hg : ∀ v t', mw_W (mw_d3 em s) need k (pc + 3, lv, (em' v).toList ++ rest, mw_E s t') (g v t')) (hx : ∀ q t', mw_H (mw_d3 em s) need k pc lv (mw_E s t') q (x q t')) : mw_W (mw_d3 em s) need k (pc, lv, st, mw_E s t) (mw_t r' g x) := by
  intro d hd z hz
  unfold mw_t at hz
  split at hz
  · exact mw_cr h hl hc hn hd rfl (hg _ _ d hd z hz)
  · obtain ⟨hp, h1, h2⟩ := hx _ _ z hz
    exact mw_cxt h hv h1 hl hc hn hd rfl (h2 d hd z hz)
  · cases hz
/-- calls of methods that may turn the two filters round -/
theorem mw_cr4 {β : Type} {em' : β → Option Value} {need' k' : Nat} {as rest : List Value} {lv' : mj_L} {r' : mw_Y β} {v : β} {s' : Nat} {t' : mw_T} {z : mj_R × mj_M} {d : Nat}
    (h : mj_ca k (pc, lv, st, mw_E s t) = some (k', as, rest)) (hl : lv_args 0 as = lv') (hc : mw_W (mw_d4 em') need' k' (0, lv', [], mw_E s t) r') (hn : need' + 1 ≤ need) (hd : need ≤ d) (e : r' = some (.inl v, s', t'))
    (hk : mj_Rn d k (pc + 3, lv, (em' v).toList ++ rest, mw_E s' t') z.1 z.2) : mj_Rn d k (pc, lv, st, mw_E s t) z.1 z.2 := by
  obtain ⟨d0, rfl⟩ : ∃ d0, d = d0 + 1 := ⟨d - 1, by omega⟩
  obtain ⟨n1, h1⟩ := hc d0 (by omega) _ e
  obtain ⟨n2, h2⟩ := hk
  refine ⟨max n1 n2 + 1, ?_⟩
  subst hl
  rw [mj_run_ca h (mj_mono' h1 (Nat.le_max_left _ _))]
  exact mj_mono' h2 (Nat.le_max_right _ _)
theorem mw_tg4 {α β : Type} {em : α → Option Value} {em' : β → Option Value} {need' k' : Nat} {lv' : mj_L} {r' : mw_Y β} {g : β → Nat → mw_T → mw_Y α} {x : Nat → Nat → mw_T → mw_Y α} (as rest : List Value)
    (h : mj_ca k (pc, lv, st, mw_E s t) = some (k', as, rest)) (hv : mj_vi k pc = true) (hl : lv_args 0 as = lv') (hc : mw_W (mw_d4 em') need' k' (0, lv', [], mw_E s t) r') (hn : need' + 1 ≤ need)
    (hg : ∀ v s' t', mw_W (mw_d4 em) need k (pc + 3, lv, (em' v).toList ++ rest, mw_E s' t') (g v s' t')) (hx : ∀ q s' t', mw_H (mw_d4 em) need k pc lv (mw_E s' t') q (x q s' t')) : mw_W (mw_d4 em) need k (pc, lv, st, mw_E s t) (mw_t4 r' g x) := by
  intro d hd z hz
  unfold mw_t4 at hz
  split at hz
  · exact mw_cr4 h hl hc hn hd rfl (hg _ _ _ d hd z hz)
  · rename_i q s' t'
    obtain ⟨hp, h1, h2⟩ := hx _ _ _ z hz
    obtain ⟨d0, rfl⟩ : ∃ d0, d = d0 + 1 := ⟨d - 1, by omega⟩
    obtain ⟨n1, g1⟩ := hc d0 (by omega) _ rfl
    obtain ⟨n2, g2⟩ := h2 _ hd z hz
    refine ⟨max n1 n2 + 1, ?_⟩
    subst hl
    rw [mj_run_cx (q := q) (M := mw_E s' t') h hv rfl (mj_mono' g1 (Nat.le_max_left _ _)), h1]
    exact mj_mono' g2 (Nat.le_max_right _ _)
  · cases hz
theorem mw_c44 {α β : Type} {em : α → Option Value} {em' : β → Option Value} {need' k' : Nat} {lv' : mj_L} {r' : mw_Y β} {g : β → Nat → mw_T → mw_Y α} (as rest : List Value)
    (h : mj_ca k (pc, lv, st, mw_E s t) = some (k', as, rest)) (hl : lv_args 0 as = lv') (hc : mw_W (mw_d4 em') need' k' (0, lv', [], mw_E s t) r') (hn : need' + 1 ≤ need)
    (hg : ∀ v s' t', mw_W (mw_d4 em) need k (pc + 3, lv, (em' v).toList ++ rest, mw_E s' t') (g v s' t')) : mw_W (mw_d4 em) need k (pc, lv, st, mw_E s t) (mw_b44 r' g) := by
  intro d hd z hz
  unfold mw_b44 at hz
  split at hz
  · exact mw_cr4 h hl hc hn hd rfl (hg _ _ _ d hd z hz)
  · cases hz
/-- the two filters turned round -/
theorem mw_FF0 : mj_up (mj_up (mw_FF 0) 0 5 (some 7)) 0 4 (some 28) = mw_FF (21 - 0) := by
  funext r k
  unfold mj_up
  by_cases h0 : r = 0
  · subst h0
    simp only [if_true]
    by_cases h4 : k = 4
    · subst h4; rfl
    · by_cases h5 : k = 5
      · subst h5; rfl
      · rw [if_neg h4, if_neg h5]
        unfold mw_FF
        rw [show Nat.beq 0 0 = true from rfl]
        simp only [cond_true]
        unfold mw_f0
        rcases k with _ | _ | _ | _ | _ | _ | k <;> first | rfl | omega
  · rw [if_neg h0, if_neg h0]
    unfold mw_FF
    cases hb : Nat.beq r 0 with
    | true => exact absurd (Nat.eq_of_beq_eq_true hb) h0
    | false => rfl
theorem mw_FF21 : mj_up (mj_up (mw_FF 21) 0 5 (some 28)) 0 4 (some 7) = mw_FF (21 - 21) := by
  funext r k
  unfold mj_up
  by_cases h0 : r = 0
  · subst h0
    simp only [if_true]
    by_cases h4 : k = 4
    · subst h4; rfl
    · by_cases h5 : k = 5
      · subst h5; rfl
      · rw [if_neg h4, if_neg h5]
        unfold mw_FF
        rw [show Nat.beq 0 0 = true from rfl]
        simp only [cond_true]
        unfold mw_f0
        rcases k with _ | _ | _ | _ | _ | _ | k <;> first | rfl | omega
  · rw [if_neg h0, if_neg h0]
    unfold mw_FF
    cases hb : Nat.beq r 0 with
    | true => exact absurd (Nat.eq_of_beq_eq_true hb) h0
    | false => rfl
theorem mw_fs0 (h : mw_W den need k (pc, lv, st, mw_E (21 - 0) t) r) : mw_W den need k (pc, lv, st, (t.1, t.2.1, mj_up (mj_up (mw_FF 0) 0 5 (some 7)) 0 4 (some 28), 86, 86 + t.2.2, mw_n0 + 6 * t.2.2)) r := by
  rw [mw_FF0]; exact h
theorem mw_fs21 (h : mw_W den need k (pc, lv, st, mw_E (21 - 21) t) r) : mw_W den need k (pc, lv, st, (t.1, t.2.1, mj_up (mj_up (mw_FF 21) 0 5 (some 28)) 0 4 (some 7), 86, 86 + t.2.2, mw_n0 + 6 * t.2.2)) r := by
  rw [mw_FF21]; exact h
/-- the JDK's own -/
def mw_le (k pc : Nat) : Option mj_E := match mj_at k pc with
  | some e => (match e.1 with
    | .invokestatic _ => bif Nat.blt e.2.2.1 1000 then none else some e
    | .invokevirtual _ => bif Nat.blt e.2.2.1 1000 then none else some e
    | _ => none)
  | none => none
theorem mw_lx {y : mj_C} {e : mj_E} (he : mw_le k c.1 = some e) (hn : 6 ≤ need) (hs : Nat.blt ((c.2.2.1.map fun v => v.category).sum) 9 = true) (hy : mj_lib e c = some y) (h : mw_W den need k y r) : mw_W den need k c r := by
  intro d hd z hz
  obtain ⟨n, hr⟩ := h d hd z hz
  refine ⟨n + 1, ?_⟩
  unfold mw_le at he
  have h5 : Nat.blt 5 d = true := by rw [Nat.blt_eq]; omega
  split at he
  · rename_i e' ha
    obtain ⟨i, len, a, b, v, tl⟩ := e'
    cases i <;> (try (cases he; done))
    all_goals
      simp only [Bool.cond_eq_ite] at he
      split at he
      · cases he
      · rename_i hb
        cases he
        rw [mj_run, ha]
        simp only [hb, h5, hs, Bool.and_self, cond_true, cond_false, hy]
        exact hr
  · cases he
theorem mw_lb (y : mj_C) (hs : Nat.blt ((st.map fun v => v.category).sum) 9 = true) (hn : 6 ≤ need) (hy : (mw_le k pc).bind (fun e => mj_lib e (pc, lv, st, M)) = some y) (h : mw_W den need k y r) : mw_W den need k (pc, lv, st, M) r := by
  cases he : mw_le k pc with
  | none => rw [he] at hy; cases hy
  | some e => rw [he] at hy; exact mw_lx (c := (pc, lv, st, M)) he hn hs hy h
theorem mw_ch {i : Int32} {r' : Nat} (w nx : Nat) (hs : Nat.blt (((.int i :: .ref r' :: st : List Value).map fun v => v.category).sum) 9 = true) (hn : 6 ≤ need) (he : ((mw_le k pc).map (fun e => e.2.2.1), r', pc + 3, decide (w < mj_sc.length)) = (some 1004, 2000 + w, nx, true)) (h : mw_W den need k (nx, lv, .int (nI ((mj_sc.getD w []).getD i.toNatClampNeg 0)) :: st, M) r) : mw_W den need k (pc, lv, .int i :: .ref r' :: st, M) (if mj_in i (mj_sc.getD w []).length = true then r else none) := by
  refine mw_gd fun hi => ?_
  simp only [Prod.mk.injEq, decide_eq_true_eq] at he
  obtain ⟨h1, rfl, rfl, hw⟩ := he
  cases he : mw_le k pc with
  | none => rw [he] at h1; cases h1
  | some e =>
    rw [he] at h1
    refine mw_lx (c := (pc, lv, .int i :: .ref (2000 + w) :: st, M)) he hn hs ?_ h
    have e1 : e.2.2.1 = 1004 := by simpa using h1
    unfold mj_lib
    rw [e1]
    simp only [Nat.add_sub_cancel_left]
    have e2 : mj_sc[w]? = some (mj_sc.getD w []) := by
      rw [List.getD_eq_getElem?_getD, List.getElem?_eq_getElem hw]; rfl
    rw [e2]
    have e3 : Nat.ble 2000 (2000 + w) = true := by rw [Nat.ble_eq]; omega
    simp only [e3, hi, Bool.and_self, cond_true]
end
