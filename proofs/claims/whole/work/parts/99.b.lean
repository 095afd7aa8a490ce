/-! THE STACK MACHINE: it takes tokens; stacks from which nothing can come -/
theorem mk_len {L : mk_L} (h : mk_hd L ≠ 0) : L.tail.length + 1 = L.length := by
  cases L with
  | nil => exact absurd rfl h
  | cons z L => rfl
theorem mk_num_len {hi : Nat} {L : mk_L} {x : Nat × mk_L} (h : mk_num hi L = some x) : x.2.length + 1 = L.length := by
  unfold mk_num at h
  split at h
  · rename_i hh
    cases h
    exact mk_len (by omega)
  · cases h
theorem mk_ex_len {k : Nat} (hk : k ≠ 0) {L L' : mk_L} (h : mk_ex k L = some L') : L'.length + 1 = L.length := by
  unfold mk_ex at h
  split at h
  · rename_i hh
    cases h
    exact mk_len (by omega)
  · cases h
theorem mk_addr_len {L : mk_L} {x : Nat × mk_L} (h : mk_addr L = some x) : x.2.length < L.length := by
  unfold mk_addr at h
  simp only [Option.bind_eq_some_iff] at h
  obtain ⟨a, h1, L1, h2, b, h3, L2, h4, c, h5, L3, h6, d, h7, h8⟩ := h
  cases h8
  have := mk_num_len h1
  have := mk_ex_len (by omega) h2
  have := mk_num_len h3
  have := mk_ex_len (by omega) h4
  have := mk_num_len h5
  have := mk_ex_len (by omega) h6
  have := mk_num_len h7
  simp only
  omega
theorem mk_prim_len {a : Nat} {L : mk_L} {x : mt_T × mk_L} (h : mk_prim a L = some x) : x.2.length < L.length := by
  unfold mk_prim at h
  split at h
  · rename_i hh
    have := mk_len (L := L) (by omega)
    simp only [Option.bind_eq_some_iff] at h
    obtain ⟨v, h1, h2⟩ := h
    cases h2
    have := mk_addr_len h1
    simp only; omega
  split at h
  · rename_i hh
    have := mk_len (L := L) (by omega)
    simp only [Option.bind_eq_some_iff] at h
    obtain ⟨v, h1, L1, h2, b, h3, h4⟩ := h
    cases h4
    have := mk_addr_len h1
    have := mk_ex_len (by omega) h2
    have := mk_num_len h3
    simp only; omega
  split at h
  · rename_i hh
    have := mk_len (L := L) (by omega)
    simp only [Option.bind_eq_some_iff] at h
    obtain ⟨v, h1, h2⟩ := h
    cases h2
    have := mk_num_len h1
    simp only; omega
  · cases h
theorem mk_size_len {L : mk_L} {x : Nat × mk_L} (h : mk_size L = some x) : x.2.length < L.length := by
  unfold mk_size at h
  split at h
  · rename_i hh
    have := mk_len (L := L) (by omega)
    simp only [Option.bind_eq_some_iff] at h
    obtain ⟨v, h1, h2⟩ := h
    split at h2
    · cases h2
    · simp only [Option.bind_eq_some_iff] at h2
      obtain ⟨L1, h2, h3⟩ := h2
      cases h3
      have := mk_num_len h1
      have := mk_ex_len (by omega) h2
      simp only; omega
  · simp only [Option.bind_eq_some_iff] at h
    obtain ⟨L1, h2, h3⟩ := h
    cases h3
    have := mk_ex_len (by omega) h2
    simp only; omega
theorem mk_pr9 (k : Nat) (h : mk_pr k ≠ 9) : k = 3 ∨ k = 4 ∨ k = 5 ∨ k = 6 := by
  unfold mk_pr at h
  split at h
  · omega
  split at h
  · omega
  split at h
  · omega
  split at h
  · omega
  · exact absurd rfl h
theorem mm_beg_len {fs : mm_F} {d : Nat} {L : mk_L} {s : mm_S} (h : mm_beg fs d L = some s) : s.2.2.2.length < L.length := by
  unfold mm_beg at h
  split at h
  · rename_i hp
    have := mk_pr9 _ hp
    have := mk_len (L := L) (by omega)
    split at h
    · rename_i h91
      have := mk_len (L := L.tail) (by omega)
      split at h
      · cases h; simp only; omega
      · cases h
    · split at h
      · cases h
      · cases h; simp only; omega
  split at h
  · have := mk_len (L := L) (by omega)
    cases h; simp only; omega
  split at h
  · have := mk_len (L := L) (by omega)
    split at h
    · cases h; simp only; omega
    · cases h
  split at h
  · have := mk_len (L := L) (by omega)
    split at h
    · cases h; simp only; omega
    · cases h
  split at h
  · simp only [Option.bind_eq_some_iff] at h
    obtain ⟨v, h1, h2⟩ := h
    have := mk_num_len h1
    cases h2; simp only; omega
  split at h
  · have := mk_len (L := L) (by omega)
    cases h; simp only; omega
  split at h
  · have := mk_len (L := L) (by omega)
    simp only [Option.bind_eq_some_iff] at h
    obtain ⟨v, h1, h2⟩ := h
    have := mk_prim_len h1
    cases h2; simp only; omega
  split at h
  · have := mk_len (L := L) (by omega)
    simp only [Option.bind_eq_some_iff] at h
    obtain ⟨v, h1, h2⟩ := h
    have := mk_prim_len h1
    cases h2; simp only; omega
  · simp only [Option.bind_eq_some_iff] at h
    obtain ⟨v, h1, h2⟩ := h
    have := mk_prim_len h1
    cases h2; simp only; omega
theorem mm_str0 : mm_str 0 = 0 := by decide
theorem mm_on_len {fs : mm_F} {d : Nat} {X : mt_T} {L : mk_L} {s : mm_S} (h : mm_on fs d X L = some s) : s.2.2.2.length < L.length := by
  unfold mm_on at h
  split at h
  · rename_i hp
    have := mk_len (L := L) (fun e => hp (by rw [e]; exact mm_str0))
    simp only [Option.bind_eq_some_iff] at h
    obtain ⟨v, h1, h2⟩ := h
    cases h2; simp only; omega
  split at h
  · simp only [Option.bind_eq_some_iff] at h
    obtain ⟨v, h1, b, h2, h3⟩ := h
    have := mk_size_len h2
    cases h3; simp only; omega
  split at h
  · have := mk_len (L := L) (by omega)
    simp only [Option.bind_eq_some_iff] at h
    obtain ⟨v, h1, h2⟩ := h
    cases h2; simp only; omega
  split at h
  · have := mk_len (L := L) (by omega)
    simp only [Option.bind_eq_some_iff] at h
    obtain ⟨v, h1, h2⟩ := h
    cases h2; simp only; omega
  · cases h
theorem mm_fuel : ∀ (n m : Nat) (fs : mm_F) (d : Nat) (mo : Option mt_T) (L : mk_L), L.length < n → L.length < m → mm_run n fs d mo L = mm_run m fs d mo L := by
  intro n
  induction n with
  | zero => intro m fs d mo L h; omega
  | succ n ih =>
    intro m fs d mo L h1 h2
    obtain ⟨m, rfl⟩ : ∃ k, m = k + 1 := ⟨m - 1, by omega⟩
    cases mo with
    | none =>
      rw [mm_run, mm_run]
      cases h : mm_beg fs d L with
      | none => rfl
      | some s =>
        have := mm_beg_len h
        exact ih m _ _ _ _ (by omega) (by omega)
    | some X =>
      rw [mm_run, mm_run]
      split
      · rfl
      cases h : mm_on fs d X L with
      | none => rfl
      | some s =>
        have := mm_on_len h
        exact ih m _ _ _ _ (by omega) (by omega)
def mm_R (fs : mm_F) (d : Nat) (mo : Option mt_T) (L : mk_L) : Option mt_T := mm_run (L.length + 1) fs d mo L
theorem mm_R_beg (fs : mm_F) (d : Nat) (L : mk_L) : mm_R fs d none L = (mm_beg fs d L).bind fun s => mm_R s.1 s.2.1 s.2.2.1 s.2.2.2 := by
  rw [mm_R, mm_run]
  cases h : mm_beg fs d L with
  | none => rfl
  | some s =>
    have := mm_beg_len h
    exact mm_fuel _ _ _ _ _ _ (by omega) (by omega)
theorem mm_R_on (fs : mm_F) (d : Nat) (X : mt_T) {L : mk_L} (hL : L ≠ []) : mm_R fs d (some X) L = (mm_on fs d X L).bind fun s => mm_R s.1 s.2.1 s.2.2.1 s.2.2.2 := by
  rw [mm_R, mm_run, if_neg hL]
  cases h : mm_on fs d X L with
  | none => rfl
  | some s =>
    have := mm_on_len h
    exact mm_fuel _ _ _ _ _ _ (by omega) (by omega)
theorem mm_R_fin (fs : mm_F) (d : Nat) (X : mt_T) : mm_R fs d (some X) [] = mm_fin fs X := by
  rw [mm_R, mm_run, if_pos rfl]
/-! POISON -/
def mm_dv : mm_F → Prop
  | [] => False
  | z :: _ => 4 ≤ z.1 ∧ z.1 ≠ 100
def mm_pf : mm_F → Prop
  | [] => False
  | z :: fs => (z.1 < 100 ∧ z.1 ≠ 3 ∧ mm_iv z.2.2 ≠ Nat.blt 2 z.1) ∨ ((z.1 ≤ 4 ∨ z.1 = 100) ∧ mm_dv fs) ∨ mm_pf fs
def mm_pz (fs : mm_F) (mo : Option mt_T) : Prop := mm_pf fs ∨ ∃ X, mo = some X ∧ mm_iv X = false ∧ mm_dv fs
theorem mm_iv_lo {s : Nat} (a : Nat) (l X : mt_T) (h1 : 1 ≤ s) (h : s ≤ 4) : mm_iv (mm_nd s a l X) = false := by
  have : s = 1 ∨ s = 2 ∨ s = 3 ∨ s = 4 := by omega
  unfold mm_nd
  rcases this with rfl | rfl | rfl | rfl <;> (simp only [if_true, if_false, mm_iv_nd] <;> first | rfl | (simp (decide := true) only [if_false, if_true, mm_iv_nd]; rfl))
theorem mm_iv_hi {s : Nat} (a : Nat) (l X : mt_T) (h : 4 < s) : mm_iv (mm_nd s a l X) = true := by
  unfold mm_nd
  rw [if_neg (by omega), mm_iv_nd, if_neg (by omega), if_neg (by omega), if_neg (by omega)]
  rfl
theorem mm_red_pz (q : Nat) (hq : 1 ≤ q) : ∀ (fs : mm_F) (X : mt_T), mm_pz fs (some X) → ∀ Y, mm_red q fs X = some Y → mm_pz Y.1 (some Y.2) := by
  intro fs
  induction fs with
  | nil =>
    intro X hp Y h
    rcases hp with hp | ⟨Z, _, _, hp⟩ <;> exact hp.elim
  | cons z fs ih =>
    intro X hp Y h
    rw [mm_red] at h
    split at h
    · rename_i hz
      split at h
      · rename_i hty
        refine ih _ ?_ Y h
        rcases hp with hp | ⟨Z, hZ, hv, hp⟩
        · rw [mm_pf] at hp
          rcases hp with ⟨_, h3, hw⟩ | ⟨h4, hd⟩ | hp
          · exfalso
            unfold mm_ty at hty
            rw [if_neg h3, Bool.and_eq_true, beq_iff_eq] at hty
            exact hw hty.1
          · exact Or.inr ⟨_, rfl, mm_iv_lo _ _ _ (by omega) (by omega), hd⟩
          · exact Or.inl hp
        · cases hZ
          exfalso
          rw [mm_dv] at hp
          unfold mm_ty at hty
          rw [if_neg (by omega), Bool.and_eq_true, beq_iff_eq, beq_iff_eq, hv] at hty
          have : Nat.blt 2 z.1 = true := by rw [Nat.blt_eq]; omega
          rw [this] at hty
          exact absurd hty.2 (by decide)
      · cases h
    · cases h; exact hp
theorem mm_cl_pz {s : Nat} {v : Bool} (hs : s = 100 ∧ v = false ∨ (s = 101 ∨ s = 102) ∧ v = true) {fs : mm_F} {X : mt_T} (hp : mm_pz fs (some X)) {Y : Nat × mm_F × mt_T} (h : mm_cl s v fs X = some Y) : mm_pz Y.2.1 (some Y.2.2) ∧ mm_iv Y.2.2 = v ∧ (v = true → mm_pf Y.2.1) := by
  unfold mm_cl at h
  rw [Option.bind_eq_some_iff] at h
  obtain ⟨Z, h1, h2⟩ := h
  have hz := mm_red_pz 1 (by omega) fs X hp Z h1
  obtain ⟨gs, W⟩ := Z
  cases gs with
  | nil => cases h2
  | cons z gs =>
    simp only at h2
    split at h2
    · rename_i hh
      cases h2
      rcases hz with hz | ⟨U, hU, hu, hz⟩
      · rw [mm_pf] at hz
        rcases hz with ⟨h5, _⟩ | ⟨h5, h6⟩ | h5
        · omega
        · have : s = 100 := by omega
          rcases hs with ⟨_, rfl⟩ | ⟨h7, _⟩
          · exact ⟨Or.inr ⟨W, rfl, hh.2, h6⟩, hh.2, fun e => by cases e⟩
          · omega
        · exact ⟨Or.inl h5, hh.2, fun _ => h5⟩
      · cases hU
        rw [mm_dv] at hz
        simp only at hu hz hh
        exfalso
        rcases hs with ⟨h7, _⟩ | ⟨_, rfl⟩
        · omega
        · rw [hu] at hh; exact absurd hh.2 (by decide)
    · cases h2
theorem mm_poison : ∀ (n : Nat) (fs : mm_F) (d : Nat) (mo : Option mt_T) (L : mk_L), mm_pz fs mo → mm_run n fs d mo L = none := by
  intro n
  induction n with
  | zero => intros; rfl
  | succ n ih =>
    intro fs d mo L hp
    cases mo with
    | none =>
      have hf : mm_pf fs := by
        rcases hp with hp | ⟨X, hX, _⟩
        · exact hp
        · cases hX
      rw [mm_run]
      cases h : mm_beg fs d L with
      | none => rfl
      | some s =>
        refine ih _ _ _ _ (Or.inl ?_)
        unfold mm_beg at h
        split at h
        · split at h
          · split at h
            · cases h; exact Or.inr (Or.inr hf)
            · cases h
          · split at h
            · cases h
            · cases h; exact hf
        split at h
        · cases h; exact Or.inr (Or.inr hf)
        split at h
        · split at h
          · cases h; exact Or.inr (Or.inr hf)
          · cases h
        split at h
        · split at h
          · cases h; exact Or.inr (Or.inr hf)
          · cases h
        split at h
        · rw [Option.bind_eq_some_iff] at h
          obtain ⟨v, h1, h2⟩ := h
          cases h2; exact hf
        split at h
        · cases h; exact hf
        split at h
        · rw [Option.bind_eq_some_iff] at h
          obtain ⟨v, h1, h2⟩ := h
          cases h2; exact hf
        split at h
        · rw [Option.bind_eq_some_iff] at h
          obtain ⟨v, h1, h2⟩ := h
          cases h2; exact hf
        · rw [Option.bind_eq_some_iff] at h
          obtain ⟨v, h1, h2⟩ := h
          cases h2; exact hf
    | some X =>
      rw [mm_run]
      split
      · cases h : mm_fin fs X with
        | none => rfl
        | some Z =>
          exfalso
          unfold mm_fin at h
          rw [Option.bind_eq_some_iff] at h
          obtain ⟨v, h1, h2⟩ := h
          have hz := mm_red_pz 1 (by omega) fs X hp v h1
          split at h2
          · rename_i hh
            rw [hh.1] at hz
            rcases hz with hz | ⟨U, hU, hu, hz⟩ <;> exact hz.elim
          · cases h2
      · cases h : mm_on fs d X L with
        | none => rfl
        | some s =>
          refine ih _ _ _ _ ?_
          unfold mm_on at h
          split at h
          · rename_i hs
            rw [Option.bind_eq_some_iff] at h
            obtain ⟨v, h1, h2⟩ := h
            have hz := mm_red_pz _ (by omega) fs X hp v h1
            cases h2
            refine Or.inl ?_
            rcases hz with hz | ⟨U, hU, hu, hz⟩
            · exact Or.inr (Or.inr hz)
            · cases hU
              by_cases h4 : mm_str (mk_hd L) ≤ 4
              · exact Or.inr (Or.inl ⟨Or.inl h4, hz⟩)
              · refine Or.inl ⟨?_, by simp only; omega, ?_⟩
                · simp only
                  unfold mm_str
                  split
                  · omega
                  split
                  · omega
                  split
                  · omega
                  split
                  · unfold mk_str
                    split
                    · omega
                    split
                    · omega
                    split
                    · omega
                    split
                    · omega
                    split <;> omega
                  · omega
                · simp only
                  rw [hu, show Nat.blt 2 (mm_str (mk_hd L)) = true from by rw [Nat.blt_eq]; omega]
                  decide
          split at h
          · rw [Option.bind_eq_some_iff] at h
            obtain ⟨v, h1, h2⟩ := h
            rw [Option.bind_eq_some_iff] at h2
            obtain ⟨b, h2, h3⟩ := h2
            cases h3
            obtain ⟨g1, g2, g3⟩ := mm_cl_pz (Or.inr ⟨Or.inr rfl, rfl⟩) hp h1
            exact Or.inl (g3 rfl)
          split at h
          · rw [Option.bind_eq_some_iff] at h
            obtain ⟨v, h1, h2⟩ := h
            cases h2
            exact (mm_cl_pz (Or.inl ⟨rfl, rfl⟩) hp h1).1
          split at h
          · rw [Option.bind_eq_some_iff] at h
            obtain ⟨v, h1, h2⟩ := h
            cases h2
            exact (mm_cl_pz (Or.inr ⟨Or.inl rfl, rfl⟩) hp h1).1
          · cases h
theorem mm_R_pz {fs : mm_F} {d : Nat} {mo : Option mt_T} {L : mk_L} (h : mm_pz fs mo) : mm_R fs d mo L = none := mm_poison _ fs d mo L h
