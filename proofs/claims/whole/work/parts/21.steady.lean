/-- the references once all is made -/
def mj_rrs : List (List (Option Nat)) := [[none, some 1, some 3, some 5, some 7, some 28], [some 2, none], [], [some 4, none], [], [some 3, some 6, none, none, none], [], [some 16, some 21, some 25, some 26], [some 9, some 10, some 11, some 12, some 13, some 14, some 15, none], [], [], [], [], [], [], [], [some 17, some 18, some 19, some 20, none], [], [], [], [], [some 8, some 22, none, none], [some 23, some 24, none], [], [], [some 8, some 16], [some 8, some 3, some 27], [], [some 37, some 42, some 46, some 47], [some 30, some 31, some 32, some 33, some 34, some 35, some 36, none], [], [], [], [], [], [], [], [some 38, some 39, some 40, some 41, none], [], [], [], [], [some 29, some 43, none, none], [some 44, some 45, none], [], [], [some 29, some 37], [some 29, some 3, some 48], [], [none, none, none, none, none, some 50, none, none, none, none, none, none, none, some 51, some 52, some 53, some 54, some 55, some 56, some 57, some 58, some 59, some 60, some 61, some 62, none, some 63, some 64, some 65, some 66, some 67, some 68, some 69, some 70, some 71, none, none, none, some 72, some 73, some 74, some 75, some 76, some 77, some 78, some 79, none, some 80, some 81, some 82, none, none, some 83, none, none, none, some 84], [], [], [], [], [], [], [], [], [], [], [], [], [], [], [], [], [], [], [], [], [], [], [], [], [], [], [], [], [], [], [], [], [], [], [], []]
def mj_RR : Nat → Nat → Option Nat := fun r k => (mj_rrs.getD r []).getD k none
abbrev mj_S (I : Nat → Nat → Int32) (L : Nat → Nat → Int64) (nc ns : Nat) : mj_M := (I, L, mj_RR, 86, nc, ns)
/-- special instructions: calls, returns, throws -/
def mj_spec : Instr → Bool
  | .return_ => true
  | .ireturn => true
  | .lreturn => true
  | .new _ => true
  | .invokestatic _ => true
  | .invokespecial _ => true
  | .invokevirtual _ => true
  | _ => false
def mj_one (k : Nat) (x : mj_C) : Option mj_C := match mj_at k x.1 with
  | none => none
  | some e => bif mj_spec e.1 then none else mj_step e x
def mj_steps : Nat → Nat → mj_C → Option mj_C
  | 0, _, x => some x
  | n + 1, k, x => (match mj_one k x with | some y => mj_steps n k y | none => none)
def mj_Rn (d k : Nat) (c : mj_C) (o : mj_R) (M : mj_M) : Prop := ∃ n, mj_run n d k c = some (o, M)
theorem mj_run_one {k : Nat} {x y : mj_C} (h : mj_one k x = some y) (n d : Nat) : mj_run (n + 1) d k x = mj_run n d k y := by
  unfold mj_one at h
  cases ha : mj_at k x.1 with
  | none => rw [ha] at h; cases h
  | some e =>
    rw [ha] at h
    obtain ⟨i, e2⟩ := e
    simp only at h
    cases hs : mj_spec i with
    | true => rw [hs] at h; cases h
    | false =>
      rw [hs] at h
      simp only [cond_false] at h
      rw [mj_run, ha]
      cases i <;> first | (cases hs; done) | simp only [h]
theorem mj_go (m : Nat) {k : Nat} {d : Nat} {x y : mj_C} {o : mj_R} {M : mj_M} (h : mj_steps m k x = some y) (hn : mj_Rn d k y o M) : mj_Rn d k x o M := by
  induction m generalizing x with
  | zero => cases h; exact hn
  | succ m ih =>
    unfold mj_steps at h
    cases h1 : mj_one k x with
    | none => rw [h1] at h; cases h
    | some z =>
      rw [h1] at h
      obtain ⟨n, hr⟩ := ih h
      exact ⟨n + 1, by rw [mj_run_one h1]; exact hr⟩
