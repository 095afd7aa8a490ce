/-! .. calls, and the locals that nobody reads any more -/
def mw_nd : List Nat → Bool
  | [] => true
  | a :: t => !(t.elem a) && mw_nd t
def mw_sub (nr : Nat) (a b : mj_L) : Prop := (∀ q ∈ a, q ∈ b) ∧ (∀ q ∈ b, q ∈ a ∨ mj_fr nr q.2 = true) ∧ (b.map (fun q => q.1)).Nodup
theorem mw_nd_nodup : ∀ {l : List Nat}, mw_nd l = true → l.Nodup
  | [], _ => List.nodup_nil
  | a :: t, h => by
    unfold mw_nd at h
    simp only [Bool.and_eq_true, Bool.not_eq_true', List.elem_eq_mem, decide_eq_false_iff_not] at h
    exact List.nodup_cons.mpr ⟨h.1, mw_nd_nodup h.2⟩
theorem mw_get_mem : ∀ {b : mj_L} {i : Nat} {v : Value}, (b.map (fun q => q.1)).Nodup → (i, v) ∈ b → mj_get b i = some v
  | [], _, _, _, h => by cases h
  | q :: t, i, v, hn, h => by
    rw [List.map_cons, List.nodup_cons] at hn
    unfold mj_get
    rw [List.find?_cons]
    rcases List.mem_cons.mp h with h | h
    · subst h
      simp only [Nat.beq_refl, Option.map_some]
    · have hne : Nat.beq q.1 i = false := by
        cases hb : Nat.beq q.1 i with
        | false => rfl
        | true =>
          exfalso
          have hq := Nat.eq_of_beq_eq_true hb
          exact hn.1 (List.mem_map.mpr ⟨(i, v), h, hq.symm⟩)
      rw [hne]
      exact mw_get_mem hn.2 h
theorem mw_mem_get {b : mj_L} {i : Nat} {v : Value} (h : mj_get b i = some v) : (i, v) ∈ b := by
  unfold mj_get at h
  cases hf : b.find? (fun q => Nat.beq q.1 i) with
  | none => rw [hf] at h; cases h
  | some q =>
    rw [hf] at h
    cases h
    have h1 := List.find?_some hf
    have h2 := List.mem_of_find?_eq_some hf
    rw [← Nat.eq_of_beq_eq_true h1]
    exact h2
theorem mw_get {nr : Nat} {a b : mj_L} (h : mw_sub nr a b) {i : Nat} {v : Value} (hg : mj_get a i = some v) : mj_get b i = some v := mw_get_mem h.2.2 (h.1 _ (mw_mem_get hg))
theorem mw_sub_filter {nr : Nat} {a b : mj_L} (p : Nat × Value → Bool) (h : mw_sub nr a b) : mw_sub nr (a.filter p) (b.filter p) := by
  refine ⟨fun q hq => ?_, fun q hq => ?_, ?_⟩
  · rw [List.mem_filter] at hq ⊢; exact ⟨h.1 _ hq.1, hq.2⟩
  · rw [List.mem_filter] at hq
    rcases h.2.1 _ hq.1 with g | g
    · exact Or.inl (List.mem_filter.mpr ⟨g, hq.2⟩)
    · exact Or.inr g
  · exact List.Nodup.sublist (List.Sublist.map _ List.filter_sublist) h.2.2
theorem mw_sub_cons {nr : Nat} {a b : mj_L} (q : Nat × Value) (h : mw_sub nr a b) (hq : ∀ z ∈ b, z.1 ≠ q.1) : mw_sub nr (q :: a) (q :: b) := by
  refine ⟨fun z hz => ?_, fun z hz => ?_, ?_⟩
  · rcases List.mem_cons.mp hz with g | g
    · exact g ▸ List.mem_cons_self
    · exact List.mem_cons_of_mem _ (h.1 _ g)
  · rcases List.mem_cons.mp hz with g | g
    · exact Or.inl (g ▸ List.mem_cons_self)
    · exact (h.2.1 _ g).imp (List.mem_cons_of_mem _) id
  · rw [List.map_cons, List.nodup_cons]
    refine ⟨fun hm => ?_, h.2.2⟩
    obtain ⟨z, hz, e⟩ := List.mem_map.mp hm
    exact hq z hz e
theorem mw_sub_s1 {nr : Nat} {a b : mj_L} (i : Nat) (v : Value) (h : mw_sub nr a b) : mw_sub nr (mj_s1 a i v) (mj_s1 b i v) := by
  refine mw_sub_cons _ (mw_sub_filter _ h) (fun z hz => ?_)
  rw [List.mem_filter] at hz
  intro e
  have := hz.2
  simp [e] at this
theorem mw_sub_s2 {nr : Nat} {a b : mj_L} (i : Nat) (v : Value) (h : mw_sub nr a b) : mw_sub nr (mj_s2 a i v) (mj_s2 b i v) := by
  refine mw_sub_cons _ (mw_sub_filter _ h) (fun z hz => ?_)
  rw [List.mem_filter] at hz
  intro e
  have := hz.2
  simp [e] at this
theorem mw_fr_le {n m : Nat} {v : Value} (h : mj_fr n v = true) (hn : n ≤ m) : mj_fr m v = true := by
  unfold mj_fr at h ⊢
  cases v with
  | ref r =>
    simp only [Bool.or_eq_true, Nat.blt_eq] at h ⊢
    exact h.imp (fun g => by omega) id
  | _ => rfl
theorem mw_sub_le {n m : Nat} {a b : mj_L} (h : mw_sub n a b) (hn : n ≤ m) : mw_sub m a b := ⟨h.1, fun q hq => (h.2.1 q hq).imp id (fun g => mw_fr_le g hn), h.2.2⟩
theorem mw_sub_fresh {nr : Nat} {a b : mj_L} {st : List Value} (h : mw_sub nr a b) (hf : mj_fresh nr a st = true) : mj_fresh nr b st = true := by
  unfold mj_fresh at hf ⊢
  rw [Bool.and_eq_true] at hf ⊢
  refine ⟨?_, hf.2⟩
  rw [List.all_eq_true] at hf ⊢
  intro q hq
  rcases h.2.1 q hq with g | g
  · exact hf.1 q g
  · exact g
theorem mw_if_weak {cc : Jvm.ClassFile.Cond} {x y : Int32} {p1 p2 : Nat} {a b : mj_L} {st : List Value} {M : mj_M} {z : mj_C} (h : mj_if cc x y (some (p1, a, st, M)) (some (p2, a, st, M)) = some z) :
    z.2.1 = a ∧ z.2.2.2 = M ∧ mj_if cc x y (some (p1, b, st, M)) (some (p2, b, st, M)) = some (z.1, b, z.2.2.1, z.2.2.2) := by
  unfold mj_if at h ⊢
  cases cc <;> (simp only at h ⊢; split at h <;> (cases h; rename_i hh; refine ⟨rfl, rfl, ?_⟩; first | rw [if_pos hh] | rw [if_neg hh]))
