/-! .. ends and ports, in both programs -/
section
variable {N R : Nat} {pk : Nat → Nat} {n : Nat} {t : mw_T}
/-- the ends as the class numbers them: 0 either, 1 source, 2 target -/
def mq_ce (e : Nat) : Nat := if e = 3 then 0 else e
theorem mq_jends (hN : 6 ≤ N) (h : mi_PktW pk n t) (o i e p q s : Nat) (hi : i < 160) (he : e = 1 ∨ e = 2 ∨ e = 3) (hs : s ≤ 4) (hp : p < 4294967296) (hq : q < 4294967296) (ht : t.1 (10 + o) i = nI (mq_ce e)) : mf_Judge_ends N R o (nI i) (nL p) (nL q) (nI s) t = some (.inl (mv (mq_ends pk n e p q s (t.2.1 (14 + o) i) (t.2.1 (15 + o) i))), t) := by
  have hin : mj_in (nI i) 160 = true := mi_inT (by omega) hi
  have e1 := mi_cfield N R hN h p s hs hp
  have e2 := mi_cfield N R hN h q s hs hq
  have u1 : ∀ v, mi_fld pk n p s = some v → mi_u v := fun v e => mi_fld_u h hs e
  have u2 : ∀ v, mi_fld pk n q s = some v → mi_u v := fun v e => mi_fld_u h hs e
  have b49 : ∀ x7 : Int32, mf_Judge_ends_b49 N R o (nI i) (nL q) (nI s) x7 t = some (.inl (if e = 1 then x7 else if x7 = 0 then mv (mq_sd pk n q s (t.2.1 (14 + o) i) (t.2.1 (15 + o) i)) else x7), t) := by
    intro x7
    rw [mf_Judge_ends_b49, if_pos hin, mi_tn (by omega), ht]
    by_cases c1 : e = 1
    · subst c1
      rw [if_pos (show nI (mq_ce 1) = (1 : Int32) from rfl), if_pos rfl]
    · rw [if_neg (show ¬ nI (mq_ce e) = (1 : Int32) by rcases he with rfl | rfl | rfl <;> first | omega | decide), if_neg c1]
      by_cases c7 : x7 = 0
      · rw [if_pos c7, if_pos c7, e2, mi_b, if_pos hin, if_pos hin, mi_same N R t u2, mi_bs]; rfl
      · rw [if_neg c7, if_neg c7]
  rw [mf_Judge_ends, if_pos hin, mi_tn (by omega), ht, mq_ends]
  by_cases c2 : e = 2
  · subst c2
    rw [if_pos (show nI (mq_ce 2) = (2 : Int32) from rfl), b49, if_pos rfl, if_neg (by omega), if_pos rfl]
    simp only
    rw [if_neg (by omega)]
  · rw [if_neg (show ¬ nI (mq_ce e) = (2 : Int32) by rcases he with rfl | rfl | rfl <;> first | omega | decide), e1, mi_b, if_pos hin, if_pos hin, mi_same N R t u1, mi_bs, b49, if_neg c2]
    rw [show (mi_fld pk n p s).map (fun v => decide ((v &&& (t.2.1 (15 + o) i)) = ((t.2.1 (14 + o) i) &&& (t.2.1 (15 + o) i)))) = mq_sd pk n p s (t.2.1 (14 + o) i) (t.2.1 (15 + o) i) from rfl]
    cases mq_sd pk n p s (t.2.1 (14 + o) i) (t.2.1 (15 + o) i) with
    | none =>
      simp only
      by_cases c1 : e = 1
      · rw [if_pos c1]
      · rw [if_neg c1, if_neg (by decide)]
    | some b =>
      cases b with
      | true =>
        simp only
        by_cases c1 : e = 1
        · rw [if_pos c1]
        · rw [if_neg c1, if_neg (by decide)]
      | false =>
        simp only
        by_cases c1 : e = 1
        · rw [if_pos c1, if_pos c1]
        · rw [if_neg c1, if_neg c1, if_pos (show mv (some false) = 0 from rfl)]
theorem mq_jaddr (hN : 6 ≤ N) (h : mi_PktW pk n t) (o i e : Nat) (hi : i < 160) (he : e = 1 ∨ e = 2 ∨ e = 3) (ht : t.1 (10 + o) i = nI (mq_ce e)) : mf_Judge_address N R o (nI i) t = some (.inl (mv (mq_addr pk n e (t.2.1 (14 + o) i) (t.2.1 (15 + o) i))), t) := by
  have e1 := mq_protocol (N := N) (R := R) hN h o 1 (Or.inl rfl)
  rw [mf_Judge_address, show (1 : Int32) = nI (mq_cp 1) from rfl, e1, mi_b, mq_addr, mq_pr]
  cases mq_ip pk n with
  | none => rfl
  | some b =>
    cases b with
    | false => rfl
    | true =>
      simp only
      rw [if_pos (show mv (if True then some true else _) = nI (mq_cp 1) from rfl)]
      rw [show (26 : Int64) = nL 26 from rfl, show (30 : Int64) = nL 30 from rfl, show (4 : Int32) = nI 4 from rfl, mq_jends hN h o i e 26 30 4 hi he (by omega) (by omega) (by omega) ht, mi_b]
theorem mq_fld_len {p s : Nat} {v : Int64} (e : mi_fld pk n p s = some v) : p + s ≤ n := by
  unfold mi_fld at e
  split at e
  · cases e
  · omega
theorem mq_head (h : mi_PktW pk n t) (hn : 15 ≤ n) : (mi_fld pk n 14 1).map (fun v => (4 : Int64) * (v &&& (15 : Int64))) = some (nL (mq_hd pk)) := by
  have hb := (h.2.2.2 14 (by omega)).1
  rw [mi_fld, if_neg (by omega), Option.map_some]
  congr 1
  have e : mi_fv pk 14 1 = pk 14 := by rw [mi_fv, mi_fv, Nat.zero_mul, Nat.zero_add]
  rw [e]
  have : nL (pk 14) &&& (15 : Int64) = nL (pk 14 % 16) := by
    rw [← Int64.toBitVec_inj, Int64.toBitVec_and, mi_nLb, mi_nLb]
    apply BitVec.eq_of_toNat_eq
    rw [BitVec.toNat_and, BitVec.toNat_ofNat, BitVec.toNat_ofNat, show ((15 : Int64).toBitVec).toNat = 2 ^ 4 - 1 from rfl, Nat.and_two_pow_sub_one_eq_mod]
    omega
  rw [this, show (4 : Int64) = nL 4 from rfl, mi_mulL]
  rfl
theorem mq_pr_len {p : Nat} (hp : p = 2 ∨ p = 3) {b : Bool} (e : mq_pr pk n p = some b) (hb : b = true) : 24 ≤ n := by
  subst hb
  unfold mq_pr at e
  cases hi : mq_ip pk n with
  | none => rw [hi] at e; cases e
  | some c =>
    rw [hi] at e
    cases c with
    | false => cases e
    | true =>
      simp only at e
      rw [if_neg (by omega)] at e
      obtain ⟨v, hv, _⟩ := Option.map_eq_some_iff.mp e
      have := mq_fld_len hv
      omega
theorem mq_jport (hN : 6 ≤ N) (h : mi_PktW pk n t) (o i e : Nat) (hi : i < 160) (he : e = 1 ∨ e = 2 ∨ e = 3) (ht : t.1 (10 + o) i = nI (mq_ce e)) (hm : t.2.1 (15 + o) i = (4294967295 : Int64)) : mf_Judge_port N R o (nI i) t = some (.inl (mv (mq_port pk n e (t.2.1 (14 + o) i))), t) := by
  have e2 := mq_protocol (N := N) (R := R) hN h o 2 (Or.inr (Or.inl rfl))
  have e4 := mq_protocol (N := N) (R := R) hN h o 3 (Or.inr (Or.inr rfl))
  have ew := mq_whole (N := N) (R := R) hN h o
  have b26 : ∀ r : Option Bool, (r = some true → 24 ≤ n) → mf_Judge_port_b26 N R o (nI i) (mv r) t = some (.inl (mv (match r with | some true => mq_ends pk n e (14 + mq_hd pk) (16 + mq_hd pk) 2 (t.2.1 (14 + o) i) (4294967295 : Int64) | x => x)), t) := by
    intro r hr
    rw [mf_Judge_port_b26]
    cases r with
    | none => rfl
    | some b =>
      cases b with
      | false => rfl
      | true =>
        have hl : 24 ≤ n := hr rfl
        have hb := (h.2.2.2 14 (by omega)).1
        rw [if_pos (show mv (some true) = 1 from rfl), show (14 : Int64) = nL 14 from rfl, mi_chead N R hN h 14 (by omega), mi_b, mq_head h (by omega), show mi_re (some (nL (mq_hd pk))) = nL (mq_hd pk) from rfl, mi_addL, show (16 : Int64) = nL 16 from rfl, mi_addL, show (2 : Int32) = nI 2 from rfl]
        have hh : mq_hd pk < 64 := by unfold mq_hd; omega
        rw [mq_jends hN h o i e _ _ 2 hi he (by omega) (by omega) (by omega) ht, mi_b, hm]
  have b16 : ∀ r : Option Bool, (r = some true → 24 ≤ n) → mf_Judge_port_b16 N R o (nI i) (mv r) t = some (.inl (mv (match r with | some true => (match mq_wh pk n with | some true => mq_ends pk n e (14 + mq_hd pk) (16 + mq_hd pk) 2 (t.2.1 (14 + o) i) (4294967295 : Int64) | x => x) | x => x)), t) := by
    intro r hr
    rw [mf_Judge_port_b16]
    cases r with
    | none => rw [if_neg (by decide), b26 none (fun h => by cases h)]
    | some b =>
      cases b with
      | false => rw [if_neg (by decide), b26 (some false) (fun h => by cases h)]
      | true => rw [if_pos (show mv (some true) = 1 from rfl), ew, mi_b, b26 _ (fun _ => hr rfl)]
  rw [mf_Judge_port, show (2 : Int32) = nI (mq_cp 2) from rfl, e2, mi_b, mq_port]
  cases h2 : mq_pr pk n 2 with
  | none =>
    rw [if_neg (by decide), b16 none (fun h => by cases h)]
  | some b =>
    cases b with
    | true =>
      rw [if_neg (by decide), b16 (some true) (fun _ => mq_pr_len (Or.inl rfl) h2 rfl)]
      rfl
    | false =>
      rw [if_pos (show mv (some false) = 0 from rfl), show (4 : Int32) = nI (mq_cp 3) from rfl, e4, mi_b, b16 _ (fun h3 => mq_pr_len (Or.inr rfl) h3 rfl)]
      rfl
end
