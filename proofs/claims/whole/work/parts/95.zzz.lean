/-! .. what a function leaves alone -/
/-- written: (role - o, field) of the first list, (role, field) of the second; field 1000: any -/
def mw_ws (A : List (Nat × Nat)) (o : Nat) (B : List (Nat × Nat)) (q i : Nat) : Prop := (∃ x ∈ A, q = x.1 + o ∧ (x.2 = 1000 ∨ i = x.2)) ∨ (∃ x ∈ B, q = x.1 ∧ (x.2 = 1000 ∨ i = x.2))
def mw_fr (A : List (Nat × Nat)) (o : Nat) (B : List (Nat × Nat)) (t T : mw_T) : Prop := (∀ q i, ¬ mw_ws A o B q i → T.1 q i = t.1 q i ∧ T.2.1 q i = t.2.1 q i) ∧ T.2.2 = t.2.2
def mw_ex {α : Type} : α ⊕ Nat → Nat
  | .inl _ => 0
  | .inr _ => 1
def mw_F (A : List (Nat × Nat)) (o : Nat) (B : List (Nat × Nat)) {α : Type} (t : mw_T) (r : mw_X α) : Prop := ∀ v T, r = some (v, T) → (∀ q i, ¬ mw_ws A o B q i → T.1 q i = t.1 q i ∧ T.2.1 q i = t.2.1 q i) ∧ T.2.2 = t.2.2 + mw_ex v
section
variable {A B A' B' : List (Nat × Nat)} {o o' : Nat} {α β : Type} {t T : mw_T} {r X Y : mw_X α}
theorem mg_rf : mw_fr A o B t t := ⟨fun _ _ _ => ⟨rfl, rfl⟩, rfl⟩
theorem mg_no : mw_F A o B t (none : mw_X α) := fun _ _ h => by cases h
theorem mg_gd {P : Prop} {_ : Decidable P} (h : mw_F A o B t r) : mw_F A o B t (if P then r else none) := by
  intro v T' e
  split at e
  · exact h v T' e
  · cases e
theorem mg_if {P : Prop} {_ : Decidable P} (h : mw_F A o B t X) (h' : mw_F A o B t Y) : mw_F A o B t (if P then X else Y) := by
  intro v T' e
  split at e
  · exact h v T' e
  · exact h' v T' e
theorem mg_rt {v : α} (h : mw_fr A o B t T) : mw_F A o B t (some (.inl v, T)) := by
  intro v' T' e
  cases e
  exact ⟨h.1, h.2⟩
theorem mg_th {q : Nat} (h : mw_fr A o B t T) : mw_F A o B t (some (.inr q, mw_we T) : mw_X α) := by
  intro v' T' e
  cases e
  exact ⟨h.1, congrArg (· + 1) h.2⟩
theorem mg_jp (h : mw_fr A o B t T) (h' : mw_F A o B T r) : mw_F A o B t r := by
  intro v T' e
  obtain ⟨h1, h2⟩ := h' v T' e
  refine ⟨fun q i hq => ?_, by rw [h2, h.2]⟩
  obtain ⟨a1, a2⟩ := h1 q i hq
  obtain ⟨b1, b2⟩ := h.1 q i hq
  exact ⟨a1.trans b1, a2.trans b2⟩
end
/-- one list within another -/
def mw_lw (A B : List (Nat × Nat)) : Bool := A.all (fun x => B.any (fun y => Nat.beq x.1 y.1 && (Nat.beq y.2 1000 || Nat.beq x.2 y.2)))
theorem mw_lw_sp {A B : List (Nat × Nat)} (h : mw_lw A B = true) {x : Nat × Nat} (hx : x ∈ A) : ∃ y ∈ B, x.1 = y.1 ∧ (y.2 = 1000 ∨ x.2 = y.2) := by
  have h1 := List.all_eq_true.mp h x hx
  obtain ⟨y, hy, h2⟩ := List.any_eq_true.mp h1
  rw [Bool.and_eq_true, Bool.or_eq_true] at h2
  exact ⟨y, hy, Nat.eq_of_beq_eq_true h2.1, h2.2.imp Nat.eq_of_beq_eq_true Nat.eq_of_beq_eq_true⟩
theorem mw_ws_sub {A B A' B' : List (Nat × Nat)} {o q i : Nat} (h : (mw_lw A' A && mw_lw B' B) = true) (hw : mw_ws A' o B' q i) : mw_ws A o B q i := by
  rw [Bool.and_eq_true] at h
  rcases hw with ⟨x, hx, e1, e2⟩ | ⟨x, hx, e1, e2⟩
  · obtain ⟨y, hy, g1, g2⟩ := mw_lw_sp h.1 hx
    refine Or.inl ⟨y, hy, by rw [e1, g1], ?_⟩
    rcases g2 with g2 | g2
    · exact Or.inl g2
    · exact e2.imp (fun z => g2 ▸ z) (fun z => g2 ▸ z)
  · obtain ⟨y, hy, g1, g2⟩ := mw_lw_sp h.2 hx
    refine Or.inr ⟨y, hy, by rw [e1, g1], ?_⟩
    rcases g2 with g2 | g2
    · exact Or.inl g2
    · exact e2.imp (fun z => g2 ▸ z) (fun z => g2 ▸ z)
/-- the callee's lists against the caller's; where the callee has no instance of its own its o is 0 and its first list empty -/
def mw_lq (A' : List (Nat × Nat)) (o' : Nat) (B' A : List (Nat × Nat)) (o : Nat) (B : List (Nat × Nat)) : Prop := ∀ q i, mw_ws A' o' B' q i → mw_ws A o B q i
theorem mw_lq1 {A B A' B' : List (Nat × Nat)} {o : Nat} (h : (mw_lw A' A && mw_lw B' B) = true) : mw_lq A' o B' A o B := fun _ _ => mw_ws_sub h
theorem mw_lq0 {A B B' : List (Nat × Nat)} {o o' : Nat} (h : mw_lw B' B = true) : mw_lq [] o' B' A o B := by
  intro q i hw
  rcases hw with ⟨x, hx, _⟩ | hw
  · cases hx
  · exact mw_ws_sub (A' := []) (o := o) (by rw [h]; rfl) (Or.inr hw)
section
variable {A B A' B' : List (Nat × Nat)} {o o' : Nat} {α β : Type} {t T : mw_T} {r' : mw_X β} {g : β → mw_T → mw_X α} {x : Nat → mw_T → mw_X α}
theorem mg_fr {v : β} {T' : mw_T} (h : mw_fr A o B t T) (hc : mw_F A' o' B' T r') (hs : mw_lq A' o' B' A o B) (e : r' = some (.inl v, T')) : mw_fr A o B t T' := by
  obtain ⟨h1, h2⟩ := hc _ _ e
  refine ⟨fun q i hq => ?_, by rw [h2, h.2]; rfl⟩
  obtain ⟨a1, a2⟩ := h1 q i (fun w => hq (hs q i w))
  obtain ⟨b1, b2⟩ := h.1 q i hq
  exact ⟨a1.trans b1, a2.trans b2⟩
theorem mg_b (h : mw_fr A o B t T) (hc : mw_F A' o' B' T r') (hs : mw_lq A' o' B' A o B) (hg : ∀ v t', mw_fr A o B t t' → mw_F A o B t (g v t')) : mw_F A o B t (mw_b r' g) := by
  intro v T' e
  unfold mw_b at e
  split at e
  · exact hg _ _ (mg_fr h hc hs rfl) v T' e
  · cases e
    obtain ⟨h1, h2⟩ := hc _ _ rfl
    refine ⟨fun q i hq => ?_, by rw [h2, h.2]; rfl⟩
    obtain ⟨a1, a2⟩ := h1 q i (fun w => hq (hs q i w))
    obtain ⟨b1, b2⟩ := h.1 q i hq
    exact ⟨a1.trans b1, a2.trans b2⟩
  · cases e
theorem mg_bs (h : mw_fr A o B t T) (hc : mw_F A' o' B' T r') (hs : mw_lq A' o' B' A o B) (hg : ∀ v t', mw_fr A o B t t' → mw_F A o B t (g v t')) : mw_F A o B t (mw_bs r' g) := by
  intro v T' e
  unfold mw_bs at e
  split at e
  · exact hg _ _ (mg_fr h hc hs rfl) v T' e
  · cases e
theorem mg_t (h : mw_fr A o B t T) (hc : mw_F A' o' B' T r') (hs : mw_lq A' o' B' A o B) (hg : ∀ v t', mw_fr A o B t t' → mw_F A o B t (g v t')) (hx : ∀ q t', mw_fr A o B (t.1, t.2.1, t.2.2 + 1) t' → mw_F A o B (t.1, t.2.1, t.2.2 + 1) (x q t')) : ∀ v T', mw_t r' g x = some (v, T') → (∀ q i, ¬ mw_ws A o B q i → T'.1 q i = t.1 q i ∧ T'.2.1 q i = t.2.1 q i) ∧ t.2.2 ≤ T'.2.2 ∧ T'.2.2 ≤ t.2.2 + 2 := by
  intro v T' e
  unfold mw_t at e
  split at e
  · obtain ⟨h1, h2⟩ := hg _ _ (mg_fr h hc hs rfl) v T' e
    refine ⟨h1, by omega, ?_⟩
    cases v <;> simp only [mw_ex] at h2 <;> omega
  · obtain ⟨h1, h2⟩ := hc _ _ rfl
    obtain ⟨h3, h4⟩ := hx _ _ ⟨fun q i hq => by
      obtain ⟨a1, a2⟩ := h1 q i (fun w => hq (hs q i w))
      obtain ⟨b1, b2⟩ := h.1 q i hq
      exact ⟨a1.trans b1, a2.trans b2⟩, by rw [h2, h.2]; rfl⟩ v T' e
    refine ⟨h3, ?_⟩
    cases v <;> simp only [mw_ex] at h4 <;> omega
  · cases e
end
section
variable {A B : List (Nat × Nat)} {o : Nat} {t T : mw_T}
theorem mw_up_ne {α : Type} {f : Nat → Nat → α} {r i : Nat} {v : α} {q j : Nat} (h : ¬ (q = r ∧ j = i)) : mj_up f r i v q j = f q j := by
  unfold mj_up
  by_cases h1 : q = r
  · rw [if_pos h1, if_neg (fun h2 => h ⟨h1, h2⟩)]
  · rw [if_neg h1]
theorem mg_wiB {i : Nat} {v : Int32} (r f : Nat) (h : mw_lw [(r, f)] B = true) (hi : f = 1000 ∨ i = f) (hp : mw_fr A o B t T) : mw_fr A o B t (mw_wi T r i v) := by
  refine ⟨fun q j hq => ?_, hp.2⟩
  obtain ⟨a1, a2⟩ := hp.1 q j hq
  refine ⟨?_, a2⟩
  rw [← a1]
  refine mw_up_ne (fun hc => hq ?_)
  obtain ⟨y, hy, g1, g2⟩ := mw_lw_sp h (List.mem_singleton.mpr rfl)
  refine Or.inr ⟨y, hy, hc.1.trans g1, ?_⟩
  rcases g2 with g2 | g2
  · exact Or.inl g2
  · exact hi.imp (fun z => g2 ▸ z) (fun z => by rw [hc.2, z]; exact g2)
theorem mg_wlB {i : Nat} {v : Int64} (r f : Nat) (h : mw_lw [(r, f)] B = true) (hi : f = 1000 ∨ i = f) (hp : mw_fr A o B t T) : mw_fr A o B t (mw_wl T r i v) := by
  refine ⟨fun q j hq => ?_, hp.2⟩
  obtain ⟨a1, a2⟩ := hp.1 q j hq
  refine ⟨a1, ?_⟩
  rw [← a2]
  refine mw_up_ne (fun hc => hq ?_)
  obtain ⟨y, hy, g1, g2⟩ := mw_lw_sp h (List.mem_singleton.mpr rfl)
  refine Or.inr ⟨y, hy, hc.1.trans g1, ?_⟩
  rcases g2 with g2 | g2
  · exact Or.inl g2
  · exact hi.imp (fun z => g2 ▸ z) (fun z => by rw [hc.2, z]; exact g2)
theorem mg_wiA {i : Nat} {v : Int32} (r f : Nat) (h : mw_lw [(r, f)] A = true) (hi : f = 1000 ∨ i = f) (hp : mw_fr A o B t T) : mw_fr A o B t (mw_wi T (r + o) i v) := by
  refine ⟨fun q j hq => ?_, hp.2⟩
  obtain ⟨a1, a2⟩ := hp.1 q j hq
  refine ⟨?_, a2⟩
  rw [← a1]
  refine mw_up_ne (fun hc => hq ?_)
  obtain ⟨y, hy, g1, g2⟩ := mw_lw_sp h (List.mem_singleton.mpr rfl)
  refine Or.inl ⟨y, hy, by rw [hc.1, ← g1], ?_⟩
  rcases g2 with g2 | g2
  · exact Or.inl g2
  · exact hi.imp (fun z => g2 ▸ z) (fun z => by rw [hc.2, z]; exact g2)
theorem mg_wlA {i : Nat} {v : Int64} (r f : Nat) (h : mw_lw [(r, f)] A = true) (hi : f = 1000 ∨ i = f) (hp : mw_fr A o B t T) : mw_fr A o B t (mw_wl T (r + o) i v) := by
  refine ⟨fun q j hq => ?_, hp.2⟩
  obtain ⟨a1, a2⟩ := hp.1 q j hq
  refine ⟨a1, ?_⟩
  rw [← a2]
  refine mw_up_ne (fun hc => hq ?_)
  obtain ⟨y, hy, g1, g2⟩ := mw_lw_sp h (List.mem_singleton.mpr rfl)
  refine Or.inl ⟨y, hy, by rw [hc.1, ← g1], ?_⟩
  rcases g2 with g2 | g2
  · exact Or.inl g2
  · exact hi.imp (fun z => g2 ▸ z) (fun z => by rw [hc.2, z]; exact g2)
end
