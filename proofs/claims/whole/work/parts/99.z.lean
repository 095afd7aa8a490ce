/-! .. what memory holds then -/
def mz_cnt : List (Nat × Option (Nat × Value)) → Nat
  | [] => 0
  | (_, none) :: E => mz_cnt E + 1
  | (_, some _) :: E => mz_cnt E
def mz_ok : List (Nat × Option (Nat × Value)) → Bool
  | [] => true
  | (_, none) :: E => Nat.blt (mz_cnt E) 3000 && mz_ok E
  | (r, some _) :: E => Nat.blt r (mz_cnt E) && mz_ok E
def mz_lF : List (Nat × Option (Nat × Value)) → Nat → Nat → Option Nat
  | [], _, _ => none
  | (r, some (k, .ref q)) :: E, r', k' => if r' = r ∧ k' = k then some q else mz_lF E r' k'
  | _ :: E, r', k' => mz_lF E r' k'
def mz_lI : List (Nat × Option (Nat × Value)) → Nat → Nat → Int32
  | [], _, _ => 0
  | (r, some (k, .int x)) :: E, r', k' => if r' = r ∧ k' = k then x else mz_lI E r' k'
  | _ :: E, r', k' => mz_lI E r' k'
def mz_lL : List (Nat × Option (Nat × Value)) → Nat → Nat → Int64
  | [], _, _ => 0
  | (r, some (k, .long x)) :: E, r', k' => if r' = r ∧ k' = k then x else mz_lL E r' k'
  | _ :: E, r', k' => mz_lL E r' k'
theorem mz_up {α : Type} (f : Nat → Nat → α) (r k : Nat) (v : α) (r' k' : Nat) : mj_up f r k v r' k' = if r' = r ∧ k' = k then v else f r' k' := by
  unfold mj_up
  by_cases h : r' = r
  · by_cases g : k' = k
    · rw [if_pos h, if_pos g, if_pos ⟨h, g⟩]
    · rw [if_pos h, if_neg g, if_neg (fun x => g x.2)]
  · rw [if_neg h, if_neg (fun x => h x.1)]
theorem mz_mem (xs : Nat → Int32) (L : Nat) : ∀ E : List (Nat × Option (Nat × Value)), mz_ok E = true → (mz_M (mj_M0 xs L) E).nr = mz_cnt E ∧ mz_cnt E ≤ 3000 ∧ (∀ r k, (mz_M (mj_M0 xs L) E).F r k = mz_lF E r k) ∧ (∀ r k, (mz_M (mj_M0 xs L) E).I r k = if r < 3000 then mz_lI E r k else (mj_M0 xs L).I r k) ∧ (∀ r k, (mz_M (mj_M0 xs L) E).L r k = mz_lL E r k) ∧ (∀ r, mz_cnt E ≤ r → ∀ k, mz_lF E r k = none ∧ mz_lI E r k = 0 ∧ mz_lL E r k = 0) := by
  intro E
  induction E with
  | nil =>
    intro _
    refine ⟨rfl, Nat.zero_le _, fun _ _ => rfl, fun r k => ?_, fun _ _ => rfl, fun _ _ _ => ⟨rfl, rfl, rfl⟩⟩
    by_cases h : r < 3000
    · rw [if_pos h]
      show (if r = 3000 then xs k else if r = 3001 then nI L else 0) = mz_lI [] r k
      rw [if_neg (by omega), if_neg (by omega), mz_lI]
    · rw [if_neg h]; rfl
  | cons e E ih =>
    intro h
    obtain ⟨r0, o⟩ := e
    rcases o with _ | ⟨k0, v⟩
    · rw [mz_ok, Bool.and_eq_true, Nat.blt_eq] at h
      obtain ⟨i1, i2, i3, i4, i5, i6⟩ := ih h.2
      refine ⟨?_, ?_, fun r k => ?_, fun r k => ?_, fun r k => ?_, fun r hr k => ?_⟩
      · show (mz_M (mj_M0 xs L) E).nr + 1 = _
        rw [i1, mz_cnt]
      · rw [mz_cnt]; omega
      · show (if r = (mz_M (mj_M0 xs L) E).nr then none else (mz_M (mj_M0 xs L) E).F r k) = mz_lF E r k
        rw [i1, i3]
        by_cases g : r = mz_cnt E
        · rw [if_pos g, (i6 r (by omega) k).1]
        · rw [if_neg g]
      · show (if r = (mz_M (mj_M0 xs L) E).nr then 0 else (mz_M (mj_M0 xs L) E).I r k) = if r < 3000 then mz_lI E r k else (mj_M0 xs L).I r k
        rw [i1, i4]
        by_cases g : r = mz_cnt E
        · rw [if_pos g, if_pos (by omega), (i6 r (by omega) k).2.1]
        · rw [if_neg g]
      · show (if r = (mz_M (mj_M0 xs L) E).nr then 0 else (mz_M (mj_M0 xs L) E).L r k) = mz_lL E r k
        rw [i1, i5]
        by_cases g : r = mz_cnt E
        · rw [if_pos g, (i6 r (by omega) k).2.2]
        · rw [if_neg g]
      · rw [mz_cnt] at hr
        exact i6 r (by omega) k
    · rw [mz_ok, Bool.and_eq_true, Nat.blt_eq] at h
      obtain ⟨i1, i2, i3, i4, i5, i6⟩ := ih h.2
      have ne : ∀ r, mz_cnt E ≤ r → ∀ k, ¬ (r = r0 ∧ k = k0) := fun r hr k x => by omega
      cases v with
      | ref q =>
        refine ⟨i1, i2, fun r k => ?_, i4, i5, fun r hr k => ⟨?_, (i6 r hr k).2⟩⟩
        · show mj_up (mz_M (mj_M0 xs L) E).F r0 k0 (some q) r k = _
          rw [mz_up, i3, mz_lF]
        · rw [mz_lF, if_neg (ne r hr k)]; exact (i6 r hr k).1
      | int x =>
        refine ⟨i1, i2, i3, fun r k => ?_, i5, fun r hr k => ⟨(i6 r hr k).1, ?_, (i6 r hr k).2.2⟩⟩
        · show mj_up (mz_M (mj_M0 xs L) E).I r0 k0 x r k = _
          rw [mz_up, i4, mz_lI]
          by_cases g : r < 3000
          · rw [if_pos g, if_pos g]
          · rw [if_neg g, if_neg g, if_neg (fun x => by omega)]
        · rw [mz_lI, if_neg (ne r hr k)]; exact (i6 r hr k).2.1
      | long x =>
        refine ⟨i1, i2, i3, i4, fun r k => ?_, fun r hr k => ⟨(i6 r hr k).1, (i6 r hr k).2.1, ?_⟩⟩
        · show mj_up (mz_M (mj_M0 xs L) E).L r0 k0 x r k = _
          rw [mz_up, i5, mz_lL]
        · rw [mz_lL, if_neg (ne r hr k)]; exact (i6 r hr k).2.2
      | _ => exact ⟨i1, i2, i3, i4, i5, i6⟩
def mz_len (r : Nat) : Nat := if r = 0 then 6 else (mj_rrs.getD r []).length
def mz_hi : List (Nat × Option (Nat × Value)) → Bool
  | [] => true
  | (_, none) :: E => mz_hi E
  | (r, some (k, _)) :: E => Nat.blt k (mz_len r) && mz_hi E
theorem mz_lF_hi : ∀ E : List (Nat × Option (Nat × Value)), mz_hi E = true → ∀ r k, mz_len r ≤ k → mz_lF E r k = none := by
  intro E
  induction E with
  | nil => intro _ r k _; rfl
  | cons e E ih =>
    intro h r k hrk
    obtain ⟨r0, o⟩ := e
    rcases o with _ | ⟨k0, v⟩
    · exact ih h r k hrk
    · rw [mz_hi, Bool.and_eq_true, Nat.blt_eq] at h
      cases v with
      | ref q =>
        rw [mz_lF, if_neg (fun x => by rw [x.1, x.2] at hrk; omega)]
        exact ih h.2 r k hrk
      | _ => exact ih h.2 r k hrk
theorem mz_FF_hi (r k : Nat) (h : mz_len r ≤ k) : mw_FF 0 r k = none := by
  unfold mw_FF
  unfold mz_len at h
  cases hr : Nat.beq r 0 with
  | true =>
    have : r = 0 := Nat.eq_of_beq_eq_true hr
    rw [if_pos this] at h
    obtain ⟨j, rfl⟩ : ∃ j, k = j + 6 := ⟨k - 6, by omega⟩
    rfl
  | false =>
    rw [if_neg (fun x => by rw [x] at hr; cases hr)] at h
    show mj_RR r k = none
    unfold mj_RR
    rw [List.getD_eq_getElem?_getD (l := mj_rrs.getD r []), List.getElem?_eq_none h]; rfl
theorem mz_len_hi (r : Nat) (h : 86 ≤ r) : mz_len r = 0 := by
  unfold mz_len
  rw [if_neg (by omega), List.getD_eq_getElem?_getD (l := mj_rrs), List.getElem?_eq_none (by rw [show mj_rrs.length = 86 by decide]; omega)]; rfl
set_option maxRecDepth 100000 in
theorem mz_lF_lo : ∀ r, r < 86 → ∀ k, k < mz_len r → mz_lF (mz_ev 0 0) r k = mw_FF 0 r k := by decide +kernel
set_option maxRecDepth 100000 in
theorem mz_lF_x (x : Int32) (w : Int64) (r k : Nat) : mz_lF (mz_ev x w) r k = mz_lF (mz_ev 0 0) r k := by with_unfolding_all rfl
theorem mz_F_eq (x : Int32) (w : Int64) : mz_lF (mz_ev x w) = mw_FF 0 := by
  funext r k
  rw [mz_lF_x]
  by_cases h : mz_len r ≤ k
  · rw [mz_FF_hi r k h, mz_lF_hi _ (by decide +kernel) r k h]
  · by_cases h86 : r < 86
    · exact mz_lF_lo r h86 k (by omega)
    · rw [mz_len_hi r (by omega)] at h
      exact absurd (Nat.zero_le k) h
set_option maxRecDepth 100000 in
theorem mz_all (xs : Nat → Int32) (L : Nat) (x : Int32) (w : Int64) : mz_M (mj_M0 xs L) (mz_ev x w) = mw_E 0 ((mz_M (mj_M0 xs L) (mz_ev x w)).I, (mz_M (mj_M0 xs L) (mz_ev x w)).L, 0) := by
  have hok : mz_ok (mz_ev x w) = true := by with_unfolding_all rfl
  obtain ⟨i1, i2, i3, i4, i5, i6⟩ := mz_mem xs L (mz_ev x w) hok
  have hF : (mz_M (mj_M0 xs L) (mz_ev x w)).F = mw_FF 0 := by
    rw [← mz_F_eq x w]; funext r k; exact i3 r k
  have hc : (mz_M (mj_M0 xs L) (mz_ev x w)).nc = 86 := by with_unfolding_all rfl
  have hs : (mz_M (mj_M0 xs L) (mz_ev x w)).ns = 12513 := by with_unfolding_all rfl
  have hn : (mz_M (mj_M0 xs L) (mz_ev x w)).nr = 86 := by with_unfolding_all rfl
  generalize mz_M (mj_M0 xs L) (mz_ev x w) = M at hF hc hs hn ⊢
  obtain ⟨I, G, F, nr, nc, ns⟩ := M
  replace hF : F = mw_FF 0 := hF
  replace hc : nc = 86 := hc
  replace hs : ns = 12513 := hs
  replace hn : nr = 86 := hn
  subst hF; subst hc; subst hs; subst hn
  rfl
