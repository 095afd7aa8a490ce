/-! TREES: a filter as it is written, coded in a type that is there -/
abbrev mt_T : Type := Std.Format
/-- a node: kind, what, number, bits; two parts -/
def mt_nd (k a n m : Nat) (l r : mt_T) : mt_T := .tag k (.tag a (.tag n (.tag m (.append l r))))
abbrev mt_0 : mt_T := .nil
def mt_sz : mt_T → Nat
  | .tag _ (.tag _ (.tag _ (.tag _ (.append l r)))) => mt_sz l + mt_sz r + 1
  | _ => 0
/-- values: 1 number, 2 len, 3 access, 4 two values with a sign -/
def mt_V : mt_T → Prop
  | .tag k (.tag a (.tag n (.tag _m (.append l r)))) => (k = 1 ∧ n < 4294967296 ∧ l = mt_0 ∧ r = mt_0) ∨ (k = 2 ∧ l = mt_0 ∧ r = mt_0) ∨ (k = 3 ∧ a ≤ 3 ∧ (n = 1 ∨ n = 2 ∨ n = 4) ∧ mt_V l ∧ r = mt_0) ∨ (k = 4 ∧ a ≤ 7 ∧ mt_V l ∧ mt_V r)
  | _ => False
/-- conditions: 5 and, 6 or, 7 not, 8 relation, 9 protocol, 10 host, 11 net, 12 port -/
def mt_C : mt_T → Prop
  | .tag k (.tag a (.tag n (.tag m (.append l r)))) => ((k = 5 ∨ k = 6) ∧ mt_C l ∧ mt_C r) ∨ (k = 7 ∧ mt_C l ∧ r = mt_0) ∨ (k = 8 ∧ 8 ≤ a ∧ a ≤ 13 ∧ mt_V l ∧ mt_V r) ∨ (k = 9 ∧ 1 ≤ a ∧ a ≤ 3 ∧ l = mt_0 ∧ r = mt_0) ∨ ((k = 10 ∨ k = 11 ∨ k = 12) ∧ (a = 1 ∨ a = 2 ∨ a = 3) ∧ n < 4294967296 ∧ m ≤ 32 ∧ l = mt_0 ∧ r = mt_0)
  | _ => False
theorem mt_sz_nd (k a n m : Nat) (l r : mt_T) : mt_sz (mt_nd k a n m l r) = mt_sz l + mt_sz r + 1 := by rw [mt_nd, mt_sz]
theorem mt_sz_0 : mt_sz mt_0 = 0 := rfl
theorem mt_V_nd (k a n m : Nat) (l r : mt_T) : mt_V (mt_nd k a n m l r) = ((k = 1 ∧ n < 4294967296 ∧ l = mt_0 ∧ r = mt_0) ∨ (k = 2 ∧ l = mt_0 ∧ r = mt_0) ∨ (k = 3 ∧ a ≤ 3 ∧ (n = 1 ∨ n = 2 ∨ n = 4) ∧ mt_V l ∧ r = mt_0) ∨ (k = 4 ∧ a ≤ 7 ∧ mt_V l ∧ mt_V r)) := by rw [mt_nd, mt_V]
theorem mt_C_nd (k a n m : Nat) (l r : mt_T) : mt_C (mt_nd k a n m l r) = (((k = 5 ∨ k = 6) ∧ mt_C l ∧ mt_C r) ∨ (k = 7 ∧ mt_C l ∧ r = mt_0) ∨ (k = 8 ∧ 8 ≤ a ∧ a ≤ 13 ∧ mt_V l ∧ mt_V r) ∨ (k = 9 ∧ 1 ≤ a ∧ a ≤ 3 ∧ l = mt_0 ∧ r = mt_0) ∨ ((k = 10 ∨ k = 11 ∨ k = 12) ∧ (a = 1 ∨ a = 2 ∨ a = 3) ∧ n < 4294967296 ∧ m ≤ 32 ∧ l = mt_0 ∧ r = mt_0)) := by rw [mt_nd, mt_C]
theorem mt_Vind {P : mt_T → Prop} (h1 : ∀ a n m, n < 4294967296 → P (mt_nd 1 a n m mt_0 mt_0)) (h2 : ∀ a n m, P (mt_nd 2 a n m mt_0 mt_0)) (h3 : ∀ a n m l, a ≤ 3 → (n = 1 ∨ n = 2 ∨ n = 4) → mt_V l → P l → P (mt_nd 3 a n m l mt_0)) (h4 : ∀ a n m l r, a ≤ 7 → mt_V l → mt_V r → P l → P r → P (mt_nd 4 a n m l r)) : ∀ T, mt_V T → P T := by
  intro T
  induction T using mt_V.induct with
  | case1 k a n m l r ih1 ih2 =>
    intro h
    rw [mt_V] at h
    rcases h with ⟨rfl, hn, rfl, rfl⟩ | ⟨rfl, rfl, rfl⟩ | ⟨rfl, ha, hn, hl, rfl⟩ | ⟨rfl, ha, hl, hr⟩
    · exact h1 a n m hn
    · exact h2 a n m
    · exact h3 a n m l ha hn hl (ih1 hl)
    · exact h4 a n m l r ha hl hr (ih1 hl) (ih2 hr)
  | case2 T hT =>
    intro h
    rw [mt_V] at h
    · exact h.elim
    · exact hT
theorem mt_Cind {P : mt_T → Prop} (h5 : ∀ k a n m l r, (k = 5 ∨ k = 6) → mt_C l → mt_C r → P l → P r → P (mt_nd k a n m l r)) (h7 : ∀ a n m l, mt_C l → P l → P (mt_nd 7 a n m l mt_0)) (h8 : ∀ a n m l r, 8 ≤ a → a ≤ 13 → mt_V l → mt_V r → P (mt_nd 8 a n m l r)) (h9 : ∀ a n m, 1 ≤ a → a ≤ 3 → P (mt_nd 9 a n m mt_0 mt_0))
    (h10 : ∀ k a n m, (k = 10 ∨ k = 11 ∨ k = 12) → (a = 1 ∨ a = 2 ∨ a = 3) → n < 4294967296 → m ≤ 32 → P (mt_nd k a n m mt_0 mt_0)) : ∀ T, mt_C T → P T := by
  intro T
  induction T using mt_C.induct with
  | case1 k a n m l r ih1 ih2 =>
    intro h
    rw [mt_C] at h
    rcases h with ⟨hk, hl, hr⟩ | ⟨rfl, hl, rfl⟩ | ⟨rfl, ha, hb, hl, hr⟩ | ⟨rfl, ha, hb, rfl, rfl⟩ | ⟨hk, ha, hn, hm, rfl, rfl⟩
    · exact h5 k a n m l r hk hl hr (ih1 hl) (ih2 hr)
    · exact h7 a n m l hl (ih1 hl)
    · exact h8 a n m l r ha hb hl hr
    · exact h9 a n m ha hb
    · exact h10 k a n m hk ha hn hm
  | case2 T hT =>
    intro h
    rw [mt_C] at h
    · exact h.elim
    · exact hT
theorem mt_V_pos {T : mt_T} (h : mt_V T) : 1 ≤ mt_sz T := by
  refine mt_Vind (P := fun T => 1 ≤ mt_sz T) ?_ ?_ ?_ ?_ T h
  all_goals intros; rw [mt_sz_nd]; omega
theorem mt_C_pos {T : mt_T} (h : mt_C T) : 1 ≤ mt_sz T := by
  refine mt_Cind (P := fun T => 1 ≤ mt_sz T) ?_ ?_ ?_ ?_ ?_ T h
  all_goals intros; rw [mt_sz_nd]; omega
/-! what a value is worth -/
section
variable (pk : Nat → Nat) (n : Nat)
/-- where an access begins: of the packet, of the ip header, of what comes behind it -/
def mq_base (p : Nat) : Nat := if p = 0 then 0 else if p = 1 then 14 else 14 + mq_hd pk
def mt_vS : mt_T → Option Int64
  | .tag k (.tag a (.tag m (.tag _ (.append l r)))) => if k = 1 then some (nL m) else if k = 2 then some (nL n) else
    match mt_vS l with
    | none => none
    | some v => if k = 3 then mi_fld pk n (mi_n ((v + nL (mq_base pk a)) &&& (4294967295 : Int64))) m else
      (match mt_vS r with
      | none => none
      | some w => mi_cmb (nI a) v w)
  | _ => none
end
theorem mt_vS_1 (pk : Nat → Nat) (n a m b : Nat) (l r : mt_T) : mt_vS pk n (mt_nd 1 a m b l r) = some (nL m) := by rw [mt_nd, mt_vS, if_pos rfl]
theorem mt_vS_2 (pk : Nat → Nat) (n a m b : Nat) (l r : mt_T) : mt_vS pk n (mt_nd 2 a m b l r) = some (nL n) := by rw [mt_nd, mt_vS, if_neg (by decide), if_pos rfl]
theorem mt_vS_3 (pk : Nat → Nat) (n a m b : Nat) (l r : mt_T) : mt_vS pk n (mt_nd 3 a m b l r) = (match mt_vS pk n l with | none => none | some v => mi_fld pk n (mi_n ((v + nL (mq_base pk a)) &&& (4294967295 : Int64))) m) := by
  rw [mt_nd, mt_vS, if_neg (by decide), if_neg (by decide)]
  cases mt_vS pk n l with
  | none => rfl
  | some v => simp only [if_true]
theorem mt_vS_4 (pk : Nat → Nat) (n a m b : Nat) (l r : mt_T) : mt_vS pk n (mt_nd 4 a m b l r) = (match mt_vS pk n l with | none => none | some v => (match mt_vS pk n r with | none => none | some w => mi_cmb (nI a) v w)) := by
  rw [mt_nd, mt_vS, if_neg (by decide), if_neg (by decide)]
  cases mt_vS pk n l with
  | none => rfl
  | some v => simp (decide := true) only [if_false]
theorem mt_vS_u {pk : Nat → Nat} {n : Nat} {t : mw_T} (h : mi_PktW pk n t) {T : mt_T} (hT : mt_V T) : ∀ {v : Int64}, mt_vS pk n T = some v → mi_u v := by
  refine mt_Vind (P := fun T => ∀ {v : Int64}, mt_vS pk n T = some v → mi_u v) ?_ ?_ ?_ ?_ T hT
  · intro a m b hm v e
    rw [mt_vS_1] at e; cases e; exact mi_u_nL hm
  · intro a m b v e
    have := h.1
    rw [mt_vS_2] at e; cases e; exact mi_u_nL (by omega)
  · intro a m b l ha hm hl ih v e
    rw [mt_vS_3] at e
    cases hv : mt_vS pk n l with
    | none => rw [hv] at e; cases e
    | some w => rw [hv] at e; exact mi_fld_u h (by omega) e
  · intro a m b l r ha hl hr ih1 ih2 v e
    rw [mt_vS_4] at e
    cases hv : mt_vS pk n l with
    | none => rw [hv] at e; cases e
    | some w =>
      rw [hv] at e
      simp only at e
      cases hw : mt_vS pk n r with
      | none => rw [hw] at e; cases e
      | some x => rw [hw] at e; exact mi_cmb_u (ih1 hv) (ih2 hw) e
