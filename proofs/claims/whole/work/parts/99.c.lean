/-! THE STACK MACHINE does what the parser by descent does: steps -/
def mm_tp : mm_F → Nat
  | [] => 0
  | z :: _ => if z.1 < 100 then z.1 else 0
/-- a condition is wanted -/
def mm_cd : mm_F → Prop
  | [] => True
  | z :: _ => z.1 = 1 ∨ z.1 = 2 ∨ z.1 = 3 ∨ z.1 = 100
theorem mm_red_id {q : Nat} {fs : mm_F} (h : mm_tp fs < q) (X : mt_T) : mm_red q fs X = some (fs, X) := by
  cases fs with
  | nil => rfl
  | cons z fs =>
    rw [mm_tp] at h
    rw [mm_red, if_neg]
    rintro ⟨h1, h2⟩
    rw [if_pos h1] at h
    omega
theorem mm_red_cons {q s a : Nat} {l X : mt_T} {fs : mm_F} (h1 : s < 100) (h2 : q ≤ s) (hty : mm_ty s l X = true) : mm_red q ((s, a, l) :: fs) X = mm_red q fs (mm_nd s a l X) := by
  rw [mm_red, if_pos ⟨h1, h2⟩, if_pos hty]
theorem mm_er {s a d : Nat} {l X : mt_T} {fs : mm_F} {L : mk_L} (hs : 1 ≤ s) (h1 : s < 100) (hty : mm_ty s l X = true) (hla : mm_str (mk_hd L) ≤ s) : mm_R ((s, a, l) :: fs) d (some X) L = mm_R fs d (some (mm_nd s a l X)) L := by
  cases L with
  | nil => rw [mm_R_fin, mm_R_fin, mm_fin, mm_fin, mm_red_cons h1 hs hty]
  | cons z L =>
    rw [mm_R_on _ _ _ (List.cons_ne_nil _ _), mm_R_on _ _ _ (List.cons_ne_nil _ _)]
    have : mm_on ((s, a, l) :: fs) d X (z :: L) = mm_on fs d (mm_nd s a l X) (z :: L) := by
      unfold mm_on mm_cl
      rw [mm_red_cons h1 hla hty, mm_red_cons h1 hs hty]
    rw [this]
theorem mm_str_cases (k : Nat) : (mm_str k = 0 ∧ k ≠ 13 ∧ k ≠ 14) ∨ (mm_str k = 1 ∧ k = 14) ∨ (mm_str k = 2 ∧ k = 13) ∨ (mm_str k = 4 ∧ mk_rl k ≠ 0 ∧ mk_str k = 0) ∨ (mk_str k ≠ 0 ∧ mm_str k = mk_str k + 4 ∧ mk_rl k = 0) := by
  by_cases h1 : k = 14
  · subst h1; exact Or.inr (Or.inl ⟨by decide, rfl⟩)
  by_cases h2 : k = 13
  · subst h2; exact Or.inr (Or.inr (Or.inl ⟨by decide, rfl⟩))
  by_cases h3 : mk_rl k = 0
  · by_cases h4 : mk_str k = 0
    · refine Or.inl ⟨?_, h2, h1⟩
      rw [mm_str, if_neg h1, if_neg h2, if_neg (by omega), if_neg (by omega)]
    · refine Or.inr (Or.inr (Or.inr (Or.inr ⟨h4, ?_, h3⟩)))
      rw [mm_str, if_neg h1, if_neg h2, if_neg (by omega), if_pos h4]
  · refine Or.inr (Or.inr (Or.inr (Or.inl ⟨?_, h3, ?_⟩)))
    · rw [mm_str, if_neg h1, if_neg h2, if_pos h3]
    · have : k = 61 ∨ k = 8509 ∨ k = 62 ∨ k = 15421 ∨ k = 15933 ∨ k = 60 := by
        unfold mk_rl at h3
        split at h3
        · omega
        split at h3
        · omega
        split at h3
        · omega
        split at h3
        · omega
        split at h3
        · omega
        split at h3
        · omega
        · omega
      rcases this with rfl | rfl | rfl | rfl | rfl | rfl <;> decide
theorem mk_str_le (k : Nat) : mk_str k ≤ 5 := by
  unfold mk_str
  split
  · omega
  split
  · omega
  split
  · omega
  split
  · omega
  split <;> omega
theorem mm_ne {L : mk_L} (h : mk_hd L ≠ 0) : L ≠ [] := by
  rintro rfl
  exact h rfl
theorem mm_red_cf {q : Nat} {fs : mm_F} {Y : mt_T} (hq : 4 ≤ q) (hY : mm_iv Y = false) {Z : mm_F × mt_T} (h : mm_red q fs Y = some Z) : Z = (fs, Y) := by
  cases fs with
  | nil => rw [mm_red] at h; cases h; rfl
  | cons z fs =>
    rw [mm_red] at h
    split at h
    · rename_i hz
      have hty : mm_ty z.1 z.2.2 Y = false := by
        unfold mm_ty
        rw [if_neg (by omega), hY, show Nat.blt 2 z.1 = true from by rw [Nat.blt_eq]; omega]
        simp
      rw [hty] at h
      cases h
    · cases h; rfl
theorem mm_cf {fs : mm_F} {d : Nat} {Y : mt_T} {L : mk_L} (hY : mm_iv Y = false) (h : 4 ≤ mm_str (mk_hd L)) : mm_R fs d (some Y) L = none := by
  have hne : L ≠ [] := by
    rintro rfl
    rw [show mk_hd [] = 0 from rfl, mm_str0] at h
    omega
  have hle : mm_str (mk_hd L) ≤ 9 := by
    have := mk_str_le (mk_hd L)
    rcases mm_str_cases (mk_hd L) with ⟨h, _⟩ | ⟨h, _⟩ | ⟨h, _⟩ | ⟨h, _⟩ | ⟨_, h, _⟩ <;> omega
  rw [mm_R_on _ _ _ hne, mm_on, if_pos (by omega)]
  cases hr : mm_red (mm_str (mk_hd L)) fs Y with
  | none => rfl
  | some Z =>
    have := mm_red_cf h hY hr
    subst this
    refine mm_R_pz (Or.inl (Or.inl ⟨?_, ?_, ?_⟩))
    · simp only; omega
    · simp only; omega
    · simp only
      rw [hY, show Nat.blt 2 (mm_str (mk_hd L)) = true from by rw [Nat.blt_eq]; omega]
      decide
/-- a value where a condition is wanted, and no sign behind it -/
theorem mm_vf {fs : mm_F} {d : Nat} {X : mt_T} {L : mk_L} (hX : mm_iv X = true) (hc : mm_cd fs) (h : mm_str (mk_hd L) < 4) : mm_R fs d (some X) L = none := by
  -- what reducing gives
  have red : ∀ q Z, mm_red q fs X = some Z → 1 ≤ q → Z = (fs, X) := by
    intro q Z hZ hq
    cases fs with
    | nil => rw [mm_red] at hZ; cases hZ; rfl
    | cons z fs =>
      rw [mm_red] at hZ
      split at hZ
      · rename_i hz
        rw [mm_cd] at hc
        rw [mm_ty, hX] at hZ
        rcases hc with hc | hc | hc | hc
        · rw [hc] at hZ; simp (decide := true) at hZ
        · rw [hc] at hZ; simp (decide := true) at hZ
        · rw [hc] at hZ; simp (decide := true) at hZ
        · omega
      · cases hZ; rfl
  have cl : ∀ s v, (s = 100 → v = false) → mm_cl s v fs X = none ∨ (s ≠ 100 ∧ False) := by
    intro s v hs
    refine Or.inl ?_
    unfold mm_cl
    cases hr : mm_red 1 fs X with
    | none => rfl
    | some Z =>
      have := red 1 Z hr (by omega)
      subst this
      simp only [Option.bind_some]
      cases fs with
      | nil => rfl
      | cons z gs =>
        simp only
        rw [if_neg]
        rintro ⟨e1, e2⟩
        rw [mm_cd] at hc
        by_cases h100 : s = 100
        · rw [hs h100, hX] at e2; cases e2
        · -- reduced already: a sign of a condition would have been taken
          have hz : z.1 = 1 ∨ z.1 = 2 ∨ z.1 = 3 := by omega
          rw [mm_red, if_pos ⟨by omega, by omega⟩, mm_ty, hX] at hr
          rcases hz with hz | hz | hz <;> (rw [hz] at hr; simp (decide := true) at hr)
  by_cases hne : L = []
  · subst hne
    rw [mm_R_fin, mm_fin]
    cases hr : mm_red 1 fs X with
    | none => rfl
    | some Z =>
      have := red 1 Z hr (by omega)
      subst this
      simp only [Option.bind_some]
      rw [if_neg]
      rintro ⟨_, e⟩
      rw [hX] at e; cases e
  · rw [mm_R_on _ _ _ hne, mm_on]
    split
    · cases hr : mm_red (mm_str (mk_hd L)) fs X with
      | none => rfl
      | some Z =>
        have := red _ Z hr (by omega)
        subst this
        refine mm_R_pz (Or.inl (Or.inl ⟨?_, ?_, ?_⟩))
        · simp only; omega
        · simp only
          rcases mm_str_cases (mk_hd L) with ⟨h, _⟩ | ⟨h, _⟩ | ⟨h, _⟩ | ⟨h, _⟩ | ⟨_, h, _⟩ <;> omega
        · simp only
          have : mm_str (mk_hd L) = 1 ∨ mm_str (mk_hd L) = 2 := by
            rcases mm_str_cases (mk_hd L) with ⟨h, _⟩ | ⟨h, _⟩ | ⟨h, _⟩ | ⟨h, _⟩ | ⟨_, h, _⟩ <;> omega
          rcases this with e | e <;> (rw [hX, e]; decide)
    split
    · rw [(cl 102 true (by omega)).resolve_right (by simp)]; rfl
    split
    · rw [(cl 100 false (fun _ => rfl)).resolve_right (by simp)]; rfl
    split
    · rw [(cl 101 true (by omega)).resolve_right (by simp)]; rfl
    · rfl
/-- a value inside of a bracket for values that doesn't end there -/
theorem mm_vb {b p d : Nat} {l X : mt_T} {fs : mm_F} {L : mk_L} (hb : b = 101 ∨ b = 102) (hX : mm_iv X = true) (h : mk_str (mk_hd L) = 0) (h1 : b = 101 → mk_hd L ≠ 125) (h2 : b = 102 → mk_hd L ≠ 58 ∧ mk_hd L ≠ 93) : mm_R ((b, p, l) :: fs) d (some X) L = none := by
  have red : ∀ q, mm_red q ((b, p, l) :: fs) X = some ((b, p, l) :: fs, X) := by
    intro q
    rw [mm_red, if_neg (by simp only; omega)]
  by_cases hne : L = []
  · subst hne
    rw [mm_R_fin, mm_fin, red]
    simp
  · rw [mm_R_on _ _ _ hne, mm_on, mm_cl, mm_cl, mm_cl, red, red]
    simp only [Option.bind_some]
    split
    · refine mm_R_pz (Or.inl ?_)
      rcases mm_str_cases (mk_hd L) with ⟨h, _⟩ | ⟨h, _⟩ | ⟨h, _⟩ | ⟨h, _⟩ | ⟨g, _, _⟩
      · omega
      · exact Or.inl ⟨by simp only; omega, by simp only; omega, by simp only; rw [hX, h]; decide⟩
      · exact Or.inl ⟨by simp only; omega, by simp only; omega, by simp only; rw [hX, h]; decide⟩
      · exact Or.inr (Or.inl ⟨Or.inl (by simp only; omega), by rw [mm_dv]; simp only; omega⟩)
      · omega
    split
    · rw [if_neg (by omega)]; rfl
    split
    · rw [if_neg (by omega)]; rfl
    split
    · rw [if_neg (by omega)]; rfl
    · rfl
/-- a condition inside of round brackets that doesn't end there -/
theorem mm_rb {p d : Nat} {l X : mt_T} {fs : mm_F} {L : mk_L} (hX : mm_iv X = false) (h1 : mk_hd L ≠ 13) (h2 : mk_hd L ≠ 14) (h3 : mk_hd L ≠ 41) : mm_R ((100, p, l) :: fs) d (some X) L = none := by
  have red : ∀ q, mm_red q ((100, p, l) :: fs) X = some ((100, p, l) :: fs, X) := by
    intro q
    rw [mm_red, if_neg (by simp only; omega)]
  by_cases hne : L = []
  · subst hne
    rw [mm_R_fin, mm_fin, red]
    simp
  · by_cases hs : 4 ≤ mm_str (mk_hd L)
    · exact mm_cf hX hs
    · have hs0 : mm_str (mk_hd L) = 0 := by
        rcases mm_str_cases (mk_hd L) with ⟨h, _⟩ | ⟨h, _⟩ | ⟨h, _⟩ | ⟨h, _⟩ | ⟨g, _, _⟩ <;> omega
      rw [mm_R_on _ _ _ hne, mm_on, if_neg (show ¬ (mm_str (mk_hd L) ≠ 0) by omega), if_neg h3, mm_cl, mm_cl, red]
      simp only [Option.bind_some]
      split
      · rw [if_neg (by omega)]; rfl
      split
      · rw [if_neg (by omega)]; rfl
      · rfl
theorem mm_top {d : Nat} {X : mt_T} {L : mk_L} (hX : mm_iv X = false) (h1 : mk_hd L ≠ 13) (h2 : mk_hd L ≠ 14) (hne : L ≠ []) : mm_R [] d (some X) L = none := by
  by_cases hs : 4 ≤ mm_str (mk_hd L)
  · exact mm_cf hX hs
  · have hs0 : mm_str (mk_hd L) = 0 := by
      rcases mm_str_cases (mk_hd L) with ⟨h, _⟩ | ⟨h, _⟩ | ⟨h, _⟩ | ⟨h, _⟩ | ⟨g, _, _⟩ <;> omega
    have cl : ∀ s v, mm_cl s v [] X = none := by intros; rfl
    rw [mm_R_on _ _ _ hne, mm_on, if_neg (show ¬ (mm_str (mk_hd L) ≠ 0) by omega), cl, cl, cl]
    split
    · rfl
    split
    · rfl
    split
    · rfl
    · rfl
/-- a sign between conditions, or not: it may be taken at once -/
theorem mm_ec {s a d : Nat} {l X : mt_T} {fs : mm_F} {L : mk_L} (hs : s = 1 ∨ s = 2 ∨ s = 3) (hl : s ≠ 3 → mm_iv l = false) (hX : mm_iv X = false) (h : s = 1 → mk_hd L ≠ 13) : mm_R ((s, a, l) :: fs) d (some X) L = mm_R fs d (some (mm_nd s a l X)) L := by
  by_cases h4 : 4 ≤ mm_str (mk_hd L)
  · rw [mm_cf hX h4, mm_cf (mm_iv_lo _ _ _ (by omega) (by omega)) h4]
  · refine mm_er (by omega) (by omega) ?_ ?_
    · unfold mm_ty
      rcases hs with rfl | rfl | rfl
      · rw [if_neg (by decide), hl (by decide), hX]; rfl
      · rw [if_neg (by decide), hl (by decide), hX]; rfl
      · rw [if_pos rfl, hX]; rfl
    · rcases mm_str_cases (mk_hd L) with ⟨h, _⟩ | ⟨h, _⟩ | ⟨h, h'⟩ | ⟨h, _⟩ | ⟨g, _, _⟩ <;> omega
