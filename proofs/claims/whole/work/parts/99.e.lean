/-! THE STACK MACHINE does what the parser by descent does -/
def mm_vc (fs : mm_F) (L : mk_L) : Prop := mm_dv fs ∨ ¬ (mk_hd L = 15 ∨ mk_hd L = 40 ∨ (8 ≤ mk_hd L ∧ mk_hd L ≤ 12) ∨ ((mk_hd L = 3 ∨ mk_hd L = 4 ∨ mk_hd L = 5) ∧ mk_hd L.tail ≠ 91))
def mm_SV (f : Nat) : Prop := ∀ (w d : Nat) (fs : mm_F) (L : mk_L), 1 ≤ w → w ≤ 6 → d ≤ 8 → 6 * (8 - d) + (6 - w) + 1 ≤ f → mm_tp fs < w + 4 → mm_vc fs L → mm_R fs d none L = (mk_val f w d L).bind fun X => mm_R fs d (some X.1) X.2
theorem mm_pz_dv {fs : mm_F} {X : mt_T} (h : mm_dv fs) (hX : mm_iv X = false) : mm_pz fs (some X) := Or.inr ⟨X, rfl, hX, h⟩
theorem mk_pr_eq9 {k : Nat} (h : ¬ (k = 3 ∨ k = 4 ∨ k = 5 ∨ k = 6)) : mk_pr k = 9 := by
  by_cases e : mk_pr k = 9
  · exact e
  · exact absurd (mk_pr9 k e) h
theorem mm_item {f : Nat} (ih : mm_SV f) {d : Nat} {fs : mm_F} {L : mk_L} (hd : d ≤ 8) (hf : 6 * (8 - d) ≤ f) (hv : mm_vc fs L) : mm_R fs d none L = (mk_item (mk_val f) d L).bind fun X => mm_R fs d (some X.1) X.2 := by
  rw [mm_R_beg]
  unfold mm_beg
  by_cases h1 : mk_hd L = 1
  · unfold mk_item
    rw [h1, if_neg (by decide), if_neg (by decide), if_neg (by decide), if_neg (by decide), if_pos rfl, if_pos rfl]
    cases mk_num 4294967295 L <;> rfl
  by_cases h7 : mk_hd L = 7
  · unfold mk_item
    rw [h7, if_neg (by decide), if_neg (by decide), if_neg (by decide), if_neg (by decide), if_neg (by decide), if_pos rfl, if_neg (by decide), if_pos rfl]
    rfl
  by_cases h123 : mk_hd L = 123
  · unfold mk_item
    rw [h123, if_neg (show ¬ (mk_pr 123 ≠ 9) by decide), if_neg (show ¬ (123 = 15) by decide), if_neg (show ¬ (123 = 40) by decide), if_pos (show 123 = 123 from rfl), if_neg (show ¬ (123 = 1) by decide), if_neg (show ¬ (123 = 7) by decide), if_pos (show 123 = 123 from rfl)]
    by_cases hd8 : d = 8
    · rw [if_neg (by omega), if_pos hd8]; rfl
    · rw [if_pos (by omega), if_neg hd8, Option.bind_some]
      simp only
      rw [ih 1 (d + 1) ((101, 0, mt_0) :: fs) L.tail (by omega) (by omega) (by omega) (by omega) (by rw [mm_tp, if_neg (by simp only; omega)]; omega) (Or.inl (by rw [mm_dv]; simp only; omega))]
      cases hr : mk_val f 1 (d + 1) L.tail with
      | none => rfl
      | some X =>
        obtain ⟨⟨b1, _, _⟩, b4⟩ := mk_val_ok _ _ _ _ _ (by omega) hr
        simp only [Option.bind_some]
        have hs0 : mk_str (mk_hd X.2) = 0 := by omega
        by_cases hc : mk_hd X.2 = 125
        · rw [mm_R_on _ _ _ (mm_ne (by omega)), mm_on, hc, if_neg (by decide), if_neg (by decide), if_neg (by decide), if_pos rfl, mm_cl, mm_red, if_neg (by simp only; omega), mk_ex, if_pos hc]
          simp only [Option.bind_some]
          rw [if_pos (by simp [mm_iv_V b1])]
          rfl
        · rw [mm_vb (Or.inl rfl) (mm_iv_V b1) hs0 (fun _ => hc) (fun h => by omega), mk_ex, if_neg hc]
          rfl
  by_cases hp : mk_pr (mk_hd L) = 9
  · have hsp : mk_item (mk_val f) d L = none := by
      unfold mk_item
      rw [if_neg h1, if_neg h7, if_neg h123, if_pos hp]
    rw [hsp, if_neg (show ¬ (mk_pr (mk_hd L) ≠ 9) from fun h => h hp)]
    have hnp : ¬ (mk_hd L = 3 ∨ mk_hd L = 4 ∨ mk_hd L = 5 ∨ mk_hd L = 6) := by
      rintro (e | e | e | e) <;> (rw [e] at hp; revert hp; decide)
    by_cases h15 : mk_hd L = 15
    · rw [if_pos h15]
      rcases hv with hv | hv
      · exact mm_R_pz (Or.inl (show mm_pf ((3, 0, mt_0) :: fs) from Or.inr (Or.inl ⟨Or.inl (show 3 ≤ 4 by omega), hv⟩)))
      · exact absurd (Or.inl h15) hv
    rw [if_neg h15]
    by_cases h40 : mk_hd L = 40
    · rw [if_pos h40]
      rcases hv with hv | hv
      · split
        · exact mm_R_pz (Or.inl (show mm_pf ((100, 0, mt_0) :: fs) from Or.inr (Or.inl ⟨Or.inr rfl, hv⟩)))
        · rfl
      · exact absurd (Or.inr (Or.inl h40)) hv
    rw [if_neg h40, if_neg h123, if_neg h1, if_neg h7]
    by_cases hq : 8 ≤ mk_hd L ∧ mk_hd L ≤ 12
    · rcases hv with hv | hv
      · have key : ∀ a M, (a = 1 ∨ a = 2 ∨ a = 3) → (((mk_prim a M).bind fun X => some ((fs, d, some X.1, X.2) : mm_S)).bind fun s => mm_R s.1 s.2.1 s.2.2.1 s.2.2.2) = none := by
          intro a M ha
          cases hr : mk_prim a M with
          | none => rfl
          | some X => exact mm_R_pz (mm_pz_dv hv (mm_iv_C (mk_prim_ok ha hr).1))
        split
        · exact key 1 _ (by omega)
        split
        · exact key 2 _ (by omega)
        · exact key 3 _ (by omega)
      · exact absurd (Or.inr (Or.inr (Or.inl hq))) hv
    · rw [if_neg (by omega), if_neg (by omega)]
      rw [mk_prim, if_neg (by omega), if_neg (by omega), if_neg (by omega)]
      rfl
  · have hpp := mk_pr9 _ hp
    unfold mk_item
    rw [if_pos hp, if_neg h1, if_neg h7, if_neg h123, if_neg hp]
    by_cases h91 : mk_hd L.tail = 91
    · rw [if_pos h91, mk_ex, if_pos h91, Option.bind_some]
      by_cases hd8 : d = 8
      · rw [if_neg (by omega), if_pos hd8]; rfl
      · rw [if_pos (by omega), if_neg hd8, Option.bind_some]
        simp only
        rw [ih 1 (d + 1) ((102, mk_pr (mk_hd L), mt_0) :: fs) L.tail.tail (by omega) (by omega) (by omega) (by omega) (by rw [mm_tp, if_neg (by simp only; omega)]; omega) (Or.inl (by rw [mm_dv]; simp only; omega))]
        cases hr : mk_val f 1 (d + 1) L.tail.tail with
        | none => rfl
        | some X =>
          obtain ⟨⟨b1, _, _⟩, b4⟩ := mk_val_ok _ _ _ _ _ (by omega) hr
          simp only [Option.bind_some]
          have hs0 : mk_str (mk_hd X.2) = 0 := by omega
          by_cases hc : mk_hd X.2 = 58 ∨ mk_hd X.2 = 93
          · have hstr : mm_str (mk_hd X.2) = 0 := by
              rcases hc with e | e <;> (rw [e]; decide)
            rw [mm_R_on _ _ _ (mm_ne (by omega)), mm_on, if_neg (show ¬ (mm_str (mk_hd X.2) ≠ 0) by omega), if_pos hc, mm_cl, mm_red, if_neg (by simp only; omega)]
            simp only [Option.bind_some]
            rw [if_pos (by simp [mm_iv_V b1])]
            simp only [Option.bind_some]
            cases mk_size X.2 with
            | none => rfl
            | some b => rfl
          · rw [mm_vb (Or.inr rfl) (mm_iv_V b1) hs0 (fun h => by omega) (fun _ => ⟨by omega, by omega⟩), mk_size, if_neg (by omega), mk_ex, if_neg (by omega)]
            rfl
    · rw [if_neg h91, mk_ex, if_neg h91]
      split
      · rfl
      · rename_i hp0
        rcases hv with hv | hv
        · exact mm_R_pz (mm_pz_dv hv (by rw [mm_iv_nd]; rfl))
        · refine absurd (Or.inr (Or.inr (Or.inr ⟨?_, h91⟩))) hv
          rcases hpp with e | e | e | e
          · exact Or.inl e
          · exact Or.inr (Or.inl e)
          · exact Or.inr (Or.inr e)
          · rw [e] at hp0; exact absurd (by decide) hp0
theorem mm_vloop {f : Nat} (ih : mm_SV f) {w d : Nat} {fs : mm_F} (hw : 1 ≤ w) (hw6 : w ≤ 6) (hd : d ≤ 8) (hf : 6 * (8 - d) + (6 - w) ≤ f) (ht : mm_tp fs < w + 4) : ∀ (g : Nat) (X : mt_T) (L : mk_L), mt_V X → L.length < g → mm_R fs d (some X) L = (mk_vl (mk_val f) w d g X L).bind fun Y => mm_R fs d (some Y.1) Y.2 := by
  intro g
  induction g with
  | zero => intro X L _ h; omega
  | succ g ihg =>
    intro X L hX hL
    rw [mk_vl]
    split
    · rfl
    · rename_i hs
      have hle := mk_str_le (mk_hd L)
      have hk0 : mk_hd L ≠ 0 := fun e => by rw [e] at hs; exact hs (show 0 < w by omega)
      have a1 := mk_len hk0
      have hms : mm_str (mk_hd L) = mk_str (mk_hd L) + 4 ∧ mk_rl (mk_hd L) = 0 := by
        rcases mm_str_cases (mk_hd L) with ⟨h, _, _⟩ | ⟨_, h⟩ | ⟨_, h⟩ | ⟨_, _, h⟩ | ⟨_, h1, h2⟩
        · exfalso
          rcases mm_str_cases (mk_hd L) with ⟨h, g1, g2⟩ | ⟨h', _⟩ | ⟨h', _⟩ | ⟨h', _⟩ | ⟨_, h', _⟩
          · rw [mm_str, if_neg g2, if_neg g1] at h
            split at h
            · omega
            split at h
            · omega
            · omega
          all_goals omega
        · rw [h] at hs; exact absurd (show mk_str 14 < w from by rw [show mk_str 14 = 0 by decide]; omega) hs
        · rw [h] at hs; exact absurd (show mk_str 13 < w from by rw [show mk_str 13 = 0 by decide]; omega) hs
        · omega
        · exact ⟨h1, h2⟩
      have hno : mm_no (mk_hd L) = mk_sg (mk_hd L) := by
        rw [mm_no, if_neg (by omega), if_pos (by omega)]
      rw [mm_R_on _ _ _ (mm_ne hk0), mm_on, if_pos (by omega), mm_red_id (by omega), Option.bind_some, Option.bind_some]
      simp only
      rw [hms.1, hno, ih (mk_str (mk_hd L) + 1) d ((mk_str (mk_hd L) + 4, mk_sg (mk_hd L), X) :: fs) L.tail (by omega) (by omega) hd (by omega) (by rw [mm_tp]; simp only; split <;> omega) (Or.inl (by rw [mm_dv]; simp only; omega))]
      cases hr : mk_val f (mk_str (mk_hd L) + 1) d L.tail with
      | none => rfl
      | some Y =>
        obtain ⟨⟨b1, b2, b3⟩, b4⟩ := mk_val_ok _ _ _ _ _ (by omega) hr
        simp only [Option.bind_some]
        rw [mm_er (by omega) (by omega) (by
          unfold mm_ty
          rw [if_neg (by omega), mm_iv_V hX, mm_iv_V b1, show Nat.blt 2 (mk_str (mk_hd L) + 4) = true from by rw [Nat.blt_eq]; omega]
          rfl) (by rcases mm_str_cases (mk_hd Y.2) with ⟨h, _, _⟩ | ⟨h, _⟩ | ⟨h, _⟩ | ⟨h, _, _⟩ | ⟨_, h1, h2⟩ <;> omega)]
        rw [mm_nd, if_neg (by omega), if_neg (by omega), if_neg (by omega), if_neg (by omega)]
        exact ihg _ _ (by rw [mt_V_nd]; exact Or.inr (Or.inr (Or.inr ⟨rfl, mk_sg_le _, hX, b1⟩))) (by omega)
theorem mk_val_s (f w d : Nat) (L : mk_L) : mk_val (f + 1) w d L = (mk_item (mk_val f) d L).bind fun X => mk_vl (mk_val f) w d (X.2.length + 1) X.1 X.2 := rfl
theorem mk_fil_s (F f d : Nat) (L : mk_L) : mk_fil F (f + 1) d L = (mk_part F (mk_fil F f) d L).bind fun X => mk_jn 14 6 (mk_part F (mk_fil F f) d) (X.2.length + 1) X.1 X.2 := rfl
theorem mm_val : ∀ f, mm_SV f := by
  intro f
  induction f with
  | zero => intro w d fs L h1 h2 h3 h4; omega
  | succ f ih =>
    intro w d fs L hw hw6 hd hf ht hv
    rw [mk_val_s, mm_item ih hd (by omega) hv]
    cases hr : mk_item (mk_val f) d L with
    | none => rfl
    | some X =>
      simp only [Option.bind_some]
      exact mm_vloop ih hw hw6 hd (by omega) ht (X.2.length + 1) X.1 X.2 (mk_item_ok (fun w d L X hw h => (mk_val_ok f w d L X hw h).1) hr).1 (by omega)
theorem mm_tp_cd {fs : mm_F} (h : mm_cd fs) : mm_tp fs ≤ 3 := by
  cases fs with
  | nil => exact Nat.zero_le _
  | cons z fs =>
    rw [mm_cd] at h
    rw [mm_tp]
    split <;> omega
theorem mm_rel {F d : Nat} {fs : mm_F} {L : mk_L} (hF : 54 ≤ F) (hd : d ≤ 8) (hc : mm_cd fs) (hv : mm_vc fs L) : mm_R fs d none L = (mk_rel F d L).bind fun X => mm_R fs d (some X.1) X.2 := by
  have htp := mm_tp_cd hc
  rw [mk_rel, mm_val F 1 d fs L (by omega) (by omega) hd (by omega) (by omega) hv]
  cases hr : mk_val F 1 d L with
  | none => rfl
  | some X =>
    obtain ⟨⟨b1, b2, b3⟩, b4⟩ := mk_val_ok _ _ _ _ _ (by omega) hr
    simp only [Option.bind_some]
    by_cases hrl : mk_rl (mk_hd X.2) = 0
    · rw [if_pos hrl, mm_vf (mm_iv_V b1) hc (by rcases mm_str_cases (mk_hd X.2) with ⟨h, _, _⟩ | ⟨h, _⟩ | ⟨h, _⟩ | ⟨h, _, _⟩ | ⟨_, h1, h2⟩ <;> omega)]
      rfl
    · rw [if_neg hrl]
      have hms : mm_str (mk_hd X.2) = 4 := by
        rcases mm_str_cases (mk_hd X.2) with ⟨h, g1, g2⟩ | ⟨_, h⟩ | ⟨_, h⟩ | ⟨h, _, _⟩ | ⟨_, h1, h2⟩
        · rw [mm_str, if_neg g2, if_neg g1, if_pos hrl] at h; omega
        · rw [h] at hrl; exact absurd (by decide) hrl
        · rw [h] at hrl; exact absurd (by decide) hrl
        · exact h
        · omega
      have hno : mm_no (mk_hd X.2) = mk_rl (mk_hd X.2) := by rw [mm_no, if_pos hrl]
      have hk0 : mk_hd X.2 ≠ 0 := fun e => by rw [e] at hrl; exact hrl (by decide)
      rw [mm_R_on _ _ _ (mm_ne hk0), mm_on, if_pos (by omega), mm_red_id (by omega), Option.bind_some, Option.bind_some]
      simp only
      rw [hms, hno, mm_val F 1 d ((4, mk_rl (mk_hd X.2), X.1) :: fs) X.2.tail (by omega) (by omega) hd (by omega) (by rw [mm_tp]; simp only; split <;> omega) (Or.inl (by rw [mm_dv]; simp only; omega))]
      cases hr2 : mk_val F 1 d X.2.tail with
      | none => rfl
      | some Y =>
        obtain ⟨⟨c1, c2, c3⟩, c4⟩ := mk_val_ok _ _ _ _ _ (by omega) hr2
        simp only [Option.bind_some]
        rw [mm_er (by omega) (by omega) (by
          unfold mm_ty
          rw [if_neg (by omega), mm_iv_V b1, mm_iv_V c1]
          rfl) (by rcases mm_str_cases (mk_hd Y.2) with ⟨h, _, _⟩ | ⟨h, _⟩ | ⟨h, _⟩ | ⟨h, _, _⟩ | ⟨_, h1, h2⟩ <;> omega)]
        rfl
def mm_SF (F f : Nat) : Prop := ∀ (d : Nat) (fs : mm_F) (L : mk_L), d ≤ 8 → 9 ≤ d + f → mm_tp fs = 0 → mm_cd fs → mm_R fs d none L = (mk_fil F f d L).bind fun X => mm_R fs d (some X.1.2) X.2
theorem mm_uw {F f : Nat} (hF : 54 ≤ F) (ih : mm_SF F f) {d : Nat} {fs : mm_F} {L : mk_L} (hd : d ≤ 8) (hf : 8 ≤ d + f) (hc : mm_cd fs) (h15 : mk_hd L ≠ 15) : mm_R fs d none L = (mk_uw F (mk_fil F f) d L).bind fun X => mm_R fs d (some X.1.2) X.2 := by
  unfold mk_uw
  by_cases h40 : mk_hd L = 40
  · rw [if_pos h40, mm_R_beg, mm_beg, h40, if_neg (by decide), if_neg (by decide), if_pos rfl]
    by_cases hd8 : d = 8
    · rw [if_neg (by omega), if_pos hd8]; rfl
    · rw [if_pos (by omega), if_neg hd8, Option.bind_some]
      simp only
      rw [ih (d + 1) ((100, 0, mt_0) :: fs) L.tail (by omega) (by omega) (by rw [mm_tp, if_neg (by simp only; omega)]) (by rw [mm_cd]; exact Or.inr (Or.inr (Or.inr rfl)))]
      cases hr : mk_fil F f (d + 1) L.tail with
      | none => rfl
      | some X =>
        obtain ⟨⟨b1, b2, _⟩, b4, b5⟩ := mk_fil_ok _ _ _ _ hr
        simp only [Option.bind_some]
        by_cases hc' : mk_hd X.2 = 41
        · rw [mm_R_on _ _ _ (mm_ne (by omega)), mm_on, hc', if_neg (by decide), if_neg (by decide), if_pos rfl, mm_cl, mm_red, if_neg (by simp only; omega), mk_ex, if_pos hc']
          simp only [Option.bind_some]
          rw [if_pos (by simp [mm_iv_C b2])]
          rfl
        · rw [mm_rb (mm_iv_C b2) b4 b5 hc', mk_ex, if_neg hc']
          rfl
  rw [if_neg h40]
  by_cases hp : (mk_hd L = 3 ∨ mk_hd L = 4 ∨ mk_hd L = 5) ∧ mk_hd L.tail ≠ 91
  · have hpr : mk_pr (mk_hd L) ≠ 9 ∧ mk_pr (mk_hd L) ≠ 0 := by
      rcases hp.1 with e | e | e <;> (rw [e]; decide)
    rw [if_pos hp, mm_R_beg, mm_beg, if_pos hpr.1, if_neg hp.2, if_neg hpr.2]
    rfl
  rw [if_neg hp]
  by_cases hq : 8 ≤ mk_hd L ∧ mk_hd L ≤ 12
  · have hnp : mk_pr (mk_hd L) = 9 := mk_pr_eq9 (by omega)
    rw [mm_R_beg, mm_beg, if_neg (show ¬ (mk_pr (mk_hd L) ≠ 9) from fun h => h hnp), if_neg h15, if_neg h40, if_neg (by omega), if_neg (by omega), if_neg (by omega)]
    split
    · cases mk_prim 1 L.tail <;> rfl
    split
    · cases mk_prim 2 L.tail <;> rfl
    · rw [if_pos (by omega)]
      cases mk_prim 3 L <;> rfl
  · rw [if_neg (by omega), if_neg (by omega), if_neg (by omega), mm_rel hF hd hc (Or.inr (by
      rintro (h | h | h | h)
      · exact h15 h
      · exact h40 h
      · exact hq h
      · exact hp h))]
    cases mk_rel F d L <;> rfl
theorem mm_un {F f : Nat} (hF : 54 ≤ F) (ih : mm_SF F f) {d : Nat} (hd : d ≤ 8) (hf : 8 ≤ d + f) : ∀ (L : mk_L) (b : Bool) (fs : mm_F), mm_cd fs → mm_R fs d none L = (mk_un F (mk_fil F f) d b L).bind fun X => mm_R fs d (some X.1.2) X.2 := by
  intro L
  induction L with
  | nil =>
    intro b fs hc
    rw [mk_un, mm_uw hF ih hd hf hc (by decide)]
    cases mk_uw F (mk_fil F f) d [] <;> rfl
  | cons z L ihL =>
    intro b fs hc
    rw [mk_un]
    split
    · rename_i hz
      have hh : mk_hd (z :: L) = 15 := hz
      rw [mm_R_beg, mm_beg, hh, if_neg (by decide), if_pos rfl, Option.bind_some]
      simp only [List.tail_cons]
      rw [ihL (!b) ((3, 0, mt_0) :: fs) (by rw [mm_cd]; exact Or.inr (Or.inr (Or.inl rfl)))]
      cases hr : mk_un F (mk_fil F f) d (!b) L with
      | none => rfl
      | some X =>
        have b2 := (mk_un_ok (fun d L X h => (mk_fil_ok _ _ _ _ h).1) L _ _ hr).2.1
        simp only [Option.bind_some]
        rw [mm_ec (by omega) (fun h => absurd rfl h) (mm_iv_C b2) (fun h => by omega)]
        rfl
    · rename_i hz
      rw [mm_uw hF ih hd hf hc (show mk_hd (z :: L) ≠ 15 from hz)]
      cases mk_uw F (mk_fil F f) d (z :: L) <;> rfl
theorem mm_jn {k j s d : Nat} (hk : (k = 13 ∧ j = 5 ∧ s = 2) ∨ (k = 14 ∧ j = 6 ∧ s = 1)) {u : mk_L → Option mk_P2} (hu : ∀ L X, u L = some X → mk_ok2 false L X) (hu13 : k = 14 → ∀ L X, u L = some X → mk_hd X.2 ≠ 13) {fs : mm_F} (ht : mm_tp fs < s)
    (hrun : ∀ (X : mt_T) (L : mk_L), mm_R ((s, 0, X) :: fs) d none L = (u L).bind fun Y => mm_R ((s, 0, X) :: fs) d (some Y.1.2) Y.2) : ∀ (g : Nat) (X : mt_T × mt_T) (L : mk_L), mt_C X.2 → L.length < g → mm_R fs d (some X.2) L = (mk_jn k j u g X L).bind fun Y => mm_R fs d (some Y.1.2) Y.2 := by
  intro g
  induction g with
  | zero => intro X L _ h; omega
  | succ g ih =>
    intro X L hX hL
    rw [mk_jn]
    split
    · rename_i hh
      have a1 := mk_len (L := L) (by omega)
      have hs : mm_str (mk_hd L) = s ∧ mm_no (mk_hd L) = 0 := by
        rw [hh]
        rcases hk with ⟨rfl, _, rfl⟩ | ⟨rfl, _, rfl⟩ <;> exact ⟨by decide, by decide⟩
      rw [mm_R_on _ _ _ (mm_ne (by omega)), mm_on, hs.1, hs.2, if_pos (by omega), mm_red_id ht, Option.bind_some, Option.bind_some]
      simp only
      rw [hrun]
      cases hr : u L.tail with
      | none => rfl
      | some Y =>
        obtain ⟨b1, b2, b3, b4, b5⟩ := hu _ _ hr
        simp only [Option.bind_some]
        rw [mm_ec (by omega) (fun _ => mm_iv_C hX) (mm_iv_C b2) (fun h => hu13 (by omega) _ _ hr)]
        have hnd : mm_nd s 0 X.2 Y.1.2 = mt_nd j 0 0 0 X.2 Y.1.2 := by
          rcases hk with ⟨_, rfl, rfl⟩ | ⟨_, rfl, rfl⟩ <;> rfl
        rw [hnd]
        refine ih (mt_nd j 0 0 0 X.1 Y.1.1, mt_nd j 0 0 0 X.2 Y.1.2) Y.2 ?_ ?_
        · simp only; rw [mt_C_nd]; exact Or.inl ⟨by omega, hX, b2⟩
        · have := mt_C_pos b2; omega
    · rfl
theorem mm_part {F f : Nat} (hF : 54 ≤ F) (ih : mm_SF F f) {d : Nat} (hd : d ≤ 8) (hf : 8 ≤ d + f) {fs : mm_F} (L : mk_L) (ht : mm_tp fs < 2) (hc : mm_cd fs) : mm_R fs d none L = (mk_part F (mk_fil F f) d L).bind fun X => mm_R fs d (some X.1.2) X.2 := by
  have hFo : ∀ d L X, mk_fil F f d L = some X → mk_ok2 false L X := fun d L X h => (mk_fil_ok _ _ _ _ h).1
  rw [mk_part, mm_un hF ih hd hf L false fs hc]
  cases hr : mk_un F (mk_fil F f) d false L with
  | none => rfl
  | some X =>
    simp only [Option.bind_some]
    exact mm_jn (Or.inl ⟨rfl, rfl, rfl⟩) (fun L X h => mk_un_ok hFo L false X h) (fun h => by omega) ht (fun X L => mm_un hF ih hd hf L false _ (by rw [mm_cd]; exact Or.inr (Or.inl rfl))) (X.2.length + 1) X.1 X.2 (mk_un_ok hFo L false X hr).2.1 (by omega)
theorem mm_fil {F : Nat} (hF : 54 ≤ F) : ∀ f, mm_SF F f := by
  intro f
  induction f with
  | zero => intro d fs L h1 h2; omega
  | succ f ih =>
    intro d fs L hd hf ht hc
    have hFo : ∀ d L X, mk_fil F f d L = some X → mk_ok2 false L X := fun d L X h => (mk_fil_ok _ _ _ _ h).1
    rw [mk_fil_s, mm_part hF ih hd (by omega) L (by omega) hc]
    cases hr : mk_part F (mk_fil F f) d L with
    | none => rfl
    | some X =>
      simp only [Option.bind_some]
      exact mm_jn (Or.inr ⟨rfl, rfl, rfl⟩) (fun L X h => (mk_part_ok hFo h).1) (fun _ L X h => (mk_part_ok hFo h).2) (by omega) (fun X L => mm_part hF ih hd (by omega) L (by rw [mm_tp]; simp only; split <;> omega) (by rw [mm_cd]; exact Or.inl rfl)) (X.2.length + 1) X.1 X.2 (mk_part_ok hFo hr).1.2.1 (by omega)
theorem mm_all {F : Nat} (hF : 54 ≤ F) (L : mk_L) : mm_R [] 0 none L = (mk_all F L).map (fun X => X.2) := by
  rw [mk_all, mm_fil hF F 0 [] L (by omega) (by omega) rfl trivial]
  cases hr : mk_fil F F 0 L with
  | none => rfl
  | some X =>
    obtain ⟨⟨b1, b2, _⟩, b4, b5⟩ := mk_fil_ok _ _ _ _ hr
    simp only [Option.bind_some]
    split
    · rename_i he
      rw [he, mm_R_fin, mm_fin, mm_red, Option.bind_some, if_pos ⟨rfl, mm_iv_C b2⟩]
      rfl
    · rename_i he
      rw [mm_top (mm_iv_C b2) b4 b5 he]
      rfl
