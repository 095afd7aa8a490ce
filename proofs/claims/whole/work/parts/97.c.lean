theorem mi_ltT {a b : Nat} (hb : b < 2147483648) (h : a < b) : nI a < nI b := by rw [mi_lt (by omega) hb]; exact h
theorem mi_ltF {a b : Nat} (ha : a < 2147483648) (h : b ≤ a) : ¬ nI a < nI b := by rw [mi_lt ha (by omega)]; omega
theorem mi_neT {a b : Nat} (ha : a < 2147483648) (hb : b < 2147483648) (h : a ≠ b) : ¬ nI a = nI b := by rw [mi_eq ha hb]; exact h
theorem mi_inT {i n : Nat} (hn : n ≤ 2147483648) (h : i < n) : mj_in (nI i) n = true := by rw [mi_in (by omega)]; exact decide_eq_true h
/-! WHAT HOLDS between two calls of the script, part by part -/
/-- two states agree at these places (field 1000: all of the role) -/
def mi_ag (S : List (Nat × Nat)) (t T : mw_T) : Prop := ∀ x ∈ S, ∀ i, (x.2 = 1000 ∨ i = x.2) → T.1 x.1 i = t.1 x.1 i ∧ T.2.1 x.1 i = t.2.1 x.1 i
def mi_dj (S A B : List (Nat × Nat)) : Bool := S.all (fun x => (Nat.blt x.1 7 || Nat.blt 48 x.1) && B.all (fun y => !(Nat.beq x.1 y.1) || (!(Nat.beq x.2 1000) && (!(Nat.beq y.2 1000) && !(Nat.beq x.2 y.2))))) && A.all (fun y => Nat.ble 7 y.1 && Nat.ble y.1 27)
theorem mi_ag_rf (S : List (Nat × Nat)) (t : mw_T) : mi_ag S t t := fun _ _ _ _ => ⟨rfl, rfl⟩
theorem mi_ag_tr {S : List (Nat × Nat)} {t u T : mw_T} (h : mi_ag S t u) (g : mi_ag S u T) : mi_ag S t T := fun x hx i hi => ⟨(g x hx i hi).1.trans (h x hx i hi).1, (g x hx i hi).2.trans (h x hx i hi).2⟩
theorem mi_ag_of {S A B : List (Nat × Nat)} {o : Nat} {t T : mw_T} (ho : o = 0 ∨ o = 21) (hd : mi_dj S A B = true) (h : ∀ q i, ¬ mw_ws A o B q i → T.1 q i = t.1 q i ∧ T.2.1 q i = t.2.1 q i) : mi_ag S t T := by
  intro x hx i hi
  refine h x.1 i ?_
  unfold mi_dj at hd
  rw [Bool.and_eq_true] at hd
  have h1 := List.all_eq_true.mp hd.1 x hx
  rw [Bool.and_eq_true, Bool.or_eq_true, Nat.blt_eq, Nat.blt_eq] at h1
  rintro (⟨y, hy, e1, e2⟩ | ⟨y, hy, e1, e2⟩)
  · have h2 := List.all_eq_true.mp hd.2 y hy
    rw [Bool.and_eq_true, Nat.ble_eq, Nat.ble_eq] at h2
    omega
  · have h2 := List.all_eq_true.mp h1.2 y hy
    simp only [Bool.or_eq_true, Bool.and_eq_true, Bool.not_eq_true', ← Bool.not_eq_true, Nat.beq_eq] at h2
    rcases h2 with h2 | ⟨h2, h3, h4⟩
    · exact h2 e1
    · rcases hi with hi | hi
      · exact h2 hi
      · rcases e2 with e2 | e2
        · exact h3 e2
        · exact h4 (hi.symm.trans e2)
theorem mi_agF {S A B : List (Nat × Nat)} {o : Nat} {α : Type} {t T : mw_T} {r : mw_X α} {v : α ⊕ Nat} (ho : o = 0 ∨ o = 21) (hF : mw_F A o B t r) (hr : r = some (v, T)) (hd : mi_dj S A B = true) : mi_ag S t T := mi_ag_of ho hd (hF v T hr).1
theorem mi_agI {S : List (Nat × Nat)} {t T : mw_T} (h : mi_ag S t T) {r f : Nat} (hm : (r, f) ∈ S) (i : Nat) (hi : f = 1000 ∨ i = f) : T.1 r i = t.1 r i := (h _ hm i hi).1
theorem mi_agL {S : List (Nat × Nat)} {t T : mw_T} (h : mi_ag S t T) {r f : Nat} (hm : (r, f) ∈ S) (i : Nat) (hi : f = 1000 ∨ i = f) : T.2.1 r i = t.2.1 r i := (h _ hm i hi).2
/-- the script -/
abbrev mi_sScr : List (Nat × Nat) := [(3000, 1000), (3001, 0)]
def mi_Scr (xs : Nat → Int32) (L : Nat) (t : mw_T) : Prop := (∀ i, t.1 3000 i = xs i) ∧ t.1 3001 0 = nI L
theorem mi_Scr_ag {xs : Nat → Int32} {L : Nat} {t T : mw_T} (h : mi_ag mi_sScr t T) (hp : mi_Scr xs L t) : mi_Scr xs L T :=
  ⟨fun i => (mi_agI h (.head _) i (Or.inl rfl)).trans (hp.1 i), (mi_agI h (.tail _ (.head _)) 0 (Or.inr rfl)).trans hp.2⟩
/-- the text -/
abbrev mi_sTxt : List (Nat × Nat) := [(1, 1), (2, 1000), (49, 1), (50, 1000)]
def mi_TxtN (n : Nat) (t : mw_T) : Prop := n ≤ 160 ∧ t.1 1 1 = nI n ∧ t.1 49 1 = nI n ∧ ∀ i, i < n → ∃ c, 32 ≤ c ∧ c ≤ 126 ∧ t.1 2 i = nI c ∧ t.1 50 i = nI c
def mi_Txt (t : mw_T) : Prop := ∃ n, mi_TxtN n t
theorem mi_TxtN_ag {n : Nat} {t T : mw_T} (h : mi_ag mi_sTxt t T) (hp : mi_TxtN n t) : mi_TxtN n T := by
  obtain ⟨h1, h2, h3, h4⟩ := hp
  refine ⟨h1, (mi_agI h (.head _) 1 (Or.inr rfl)).trans h2, (mi_agI h (.tail _ (.tail _ (.head _))) 1 (Or.inr rfl)).trans h3, fun i hi => ?_⟩
  obtain ⟨c, c1, c2, c3, c4⟩ := h4 i hi
  exact ⟨c, c1, c2, (mi_agI h (.tail _ (.head _)) i (Or.inl rfl)).trans c3, (mi_agI h (.tail _ (.tail _ (.tail _ (.head _)))) i (Or.inl rfl)).trans c4⟩
/-- the packet -/
abbrev mi_sPkt : List (Nat × Nat) := [(3, 1), (4, 1000), (49, 50), (83, 1000)]
def mi_PktN (n : Nat) (t : mw_T) : Prop := n ≤ 80 ∧ t.1 3 1 = nI n ∧ t.1 49 50 = nI n ∧ ∀ i, i < 80 → ∃ c, c ≤ 255 ∧ t.1 4 i = nI c ∧ t.1 83 i = nI c
def mi_Pkt (t : mw_T) : Prop := ∃ n, mi_PktN n t
theorem mi_PktN_ag {n : Nat} {t T : mw_T} (h : mi_ag mi_sPkt t T) (hp : mi_PktN n t) : mi_PktN n T := by
  obtain ⟨h1, h2, h3, h4⟩ := hp
  refine ⟨h1, (mi_agI h (.head _) 1 (Or.inr rfl)).trans h2, (mi_agI h (.tail _ (.tail _ (.head _))) 50 (Or.inr rfl)).trans h3, fun i hi => ?_⟩
  obtain ⟨c, c1, c3, c4⟩ := h4 i hi
  exact ⟨c, c1, (mi_agI h (.tail _ (.head _)) i (Or.inl rfl)).trans c3, (mi_agI h (.tail _ (.tail _ (.tail _ (.head _)))) i (Or.inl rfl)).trans c4⟩
/-- the machine's end -/
abbrev mi_sMac : List (Nat × Nat) := [(5, 2), (5, 3), (5, 4), (6, 1000), (49, 51), (49, 54), (49, 55), (84, 1000)]
def mi_Mac (t : mw_T) : Prop := t.1 5 4 = t.1 49 51 ∧ t.2.1 5 2 = t.2.1 49 54 ∧ t.2.1 5 3 = t.2.1 49 55 ∧ ∀ i, i < 16 → t.2.1 6 i = t.2.1 84 i
theorem mi_Mac_ag {t T : mw_T} (h : mi_ag mi_sMac t T) (hp : mi_Mac t) : mi_Mac T := by
  obtain ⟨h1, h2, h3, h4⟩ := hp
  have a1 := mi_agI h (r := 5) (f := 4) (by simp) 4 (Or.inr rfl)
  have a2 := mi_agI h (r := 49) (f := 51) (by simp) 51 (Or.inr rfl)
  have a3 := mi_agL h (r := 5) (f := 2) (by simp) 2 (Or.inr rfl)
  have a4 := mi_agL h (r := 49) (f := 54) (by simp) 54 (Or.inr rfl)
  have a5 := mi_agL h (r := 5) (f := 3) (by simp) 3 (Or.inr rfl)
  have a6 := mi_agL h (r := 49) (f := 55) (by simp) 55 (Or.inr rfl)
  refine ⟨by rw [a1, a2, h1], by rw [a3, a4, h2], by rw [a5, a6, h3], fun i hi => ?_⟩
  rw [mi_agL h (r := 6) (f := 1000) (by simp) i (Or.inl rfl), mi_agL h (r := 84) (f := 1000) (by simp) i (Or.inl rfl), h4 i hi]
/-- the length of an accepted packet -/
abbrev mi_sSnp : List (Nat × Nat) := [(0, 0), (49, 8)]
def mi_Snp (sn : Nat) (t : mw_T) : Prop := 1 ≤ sn ∧ sn < 2147483648 ∧ t.1 0 0 = nI sn ∧ t.2.1 49 8 = (nI sn).toInt64
theorem mi_Snp_ag {sn : Nat} {t T : mw_T} (h : mi_ag mi_sSnp t T) (hp : mi_Snp sn t) : mi_Snp sn T :=
  ⟨hp.1, hp.2.1, (mi_agI h (.head _) 0 (Or.inr rfl)).trans hp.2.2.1, (mi_agL h (.tail _ (.head _)) 8 (Or.inr rfl)).trans hp.2.2.2⟩
/-! the calls that only touch text, packet or state -/
theorem ml_clear (N R o : Nat) {t : mw_T} (h : mi_Txt t) : ∃ v t1 t2, mf_Sieve_clear N R o t = some (.inl v, t1) ∧ mf_Model_clear N R t1 = some (.inl v, t2) ∧ mi_Txt t2 := by
  obtain ⟨n, h1, h2, h3, h4⟩ := h
  refine ⟨nI n, mw_wi t 1 1 0, mw_wi (mw_wi (mw_wi t 1 1 0) 49 0 0) 49 1 0, ?_, ?_, 0, by omega, ?_, ?_, fun i hi => absurd hi (by omega)⟩
  · rw [mf_Sieve_clear, mf_Text_length, mi_b, mf_Text_empty, mi_b, h2]
  · rw [mf_Model_clear, mi_wi, if_neg (by decide), h3]
  · rfl
  · rfl
theorem ml_cut (N R o : Nat) (x : Int32) {t : mw_T} (h : mi_Pkt t) : ∃ v t1 t2, mf_Sieve_cut N R o x t = some (.inl v, t1) ∧ mf_Model_cut N R x t1 = some (.inl v, t2) ∧ mi_Pkt t2 := by
  obtain ⟨n, h1, h2, h3, h4⟩ := h
  by_cases c1 : x < 0
  · refine ⟨-1, t, mw_wi t 49 0 0, ?_, ?_, n, h1, h2, h3, h4⟩
    · rw [mf_Sieve_cut, mf_Packet_length, mi_b, if_pos c1]
    · rw [mf_Model_cut, if_pos c1]
  · obtain ⟨m, hm, rfl⟩ := mi_pos c1
    by_cases c2 : n < m
    · refine ⟨-1, t, mw_wi t 49 0 0, ?_, ?_, n, h1, h2, h3, h4⟩
      · rw [mf_Sieve_cut, mf_Packet_length, mi_b, if_neg c1, h2, if_pos (mi_ltT hm c2)]
      · rw [mf_Model_cut, if_neg c1, h3, if_pos (mi_ltT hm c2)]
    · refine ⟨nI n, mw_wi t 3 1 (nI m), mw_wi (mw_wi (mw_wi t 3 1 (nI m)) 49 0 0) 49 50 (nI m), ?_, ?_, m, by omega, rfl, rfl, h4⟩
      · rw [mf_Sieve_cut, mf_Packet_length, mi_b, if_neg c1, h2, if_neg (mi_ltF (by omega) (by omega)), mf_Packet_shorten, mi_b]
      · rw [mf_Model_cut, if_neg c1, show (mw_wi t 3 1 (nI m)).1 49 50 = nI n from h3, if_neg (mi_ltF (by omega) (by omega))]
theorem ml_set (N R o : Nat) (x y : Int32) {t : mw_T} (h : mi_Pkt t) : ∃ v t1 t2, mf_Sieve_set N R o x y t = some (.inl v, t1) ∧ mf_Model_set N R x y t1 = some (.inl v, t2) ∧ mi_Pkt t2 := by
  obtain ⟨n, h1, h2, h3, h4⟩ := h
  by_cases c1 : x < 0
  · refine ⟨-1, t, mw_wi t 49 0 0, ?_, ?_, n, h1, h2, h3, h4⟩
    · rw [mf_Sieve_set, if_pos c1]
    · rw [mf_Model_set, if_pos c1]
  · obtain ⟨m, hm, rfl⟩ := mi_pos c1
    by_cases c2 : m < n
    · obtain ⟨c, hc, e1, e2⟩ := h4 m (by omega)
      obtain ⟨d, hd, e3⟩ := mi_and255 y
      refine ⟨nI c, mw_wi t 4 m (nI d), mw_wi (mw_wi (mw_wi t 4 m (nI d)) 49 0 0) 83 m (nI d), ?_, ?_, n, h1, h2, h3, fun i hi => ?_⟩
      · rw [mf_Sieve_set, if_neg c1, mf_Packet_length, mi_b, h2, if_pos (mi_ltT (by omega) c2), mf_Packet_replace, if_pos (mi_inT (by omega) (by omega)), if_pos (mi_inT (by omega) (by omega)), mi_tn hm, e1, e3, mi_b]
      · rw [mf_Model_set, if_neg c1, show (mw_wi t 4 m (nI d)).1 49 50 = nI n from h3, if_pos (mi_ltT (by omega) c2), if_pos (mi_inT (by omega) (by omega)), if_pos (mi_inT (by omega) (by omega)), mi_tn hm, show (mw_wi t 4 m (nI d)).1 83 m = nI c from e2, e3]
      · by_cases e : i = m
        · subst e
          exact ⟨d, hd, by rw [mi_wi, if_neg (by decide), mi_wi, if_neg (by decide), mi_wi, if_pos rfl, if_pos rfl], by rw [mi_wi, if_pos rfl, if_pos rfl]⟩
        · obtain ⟨c', g1, g2, g3⟩ := h4 i hi
          exact ⟨c', g1, by rw [mi_wi, if_neg (by decide), mi_wi, if_neg (by decide), mi_wi, if_pos rfl, if_neg e, g2], by rw [mi_wi, if_pos rfl, if_neg e]; exact g3⟩
    · refine ⟨-1, t, mw_wi t 49 0 0, ?_, ?_, n, h1, h2, h3, h4⟩
      · rw [mf_Sieve_set, if_neg c1, mf_Packet_length, mi_b, h2, if_neg (mi_ltF hm (by omega))]
      · rw [mf_Model_set, if_neg c1, h3, if_neg (mi_ltF hm (by omega))]
theorem mi_lt0 (a : Nat) (ha : a < 2147483648) : ¬ (nI a < 0) := by rw [show (0 : Int32) = nI 0 from rfl, mi_lt ha (by omega)]; omega
theorem ml_put (N R o : Nat) (hN : 10 ≤ N) (x : Int64) (y : Int32) {t : mw_T} (h : mi_Pkt t) : ∃ v t1 t2, mf_Sieve_put N R o x y t = some (.inl v, t1) ∧ mf_Model_put N R x y t1 = some (.inl v, t2) ∧ mi_Pkt t2 := by
  obtain ⟨n, h1, h2, h3, h4⟩ := h
  by_cases c1 : y < 1
  · refine ⟨-1, t, mw_wi t 49 0 0, ?_, ?_, n, h1, h2, h3, h4⟩
    · rw [mf_Sieve_put, mf_Sieve_isByteCount, if_pos c1, mi_bs, if_pos rfl]
    · rw [mf_Model_put, if_pos c1]
  · by_cases c2 : 8 < y
    · refine ⟨-1, t, mw_wi t 49 0 0, ?_, ?_, n, h1, h2, h3, h4⟩
      · rw [mf_Sieve_put, mf_Sieve_isByteCount, if_neg c1, if_pos c2, mi_bs, if_pos rfl]
      · rw [mf_Model_put, if_neg c1, if_pos c2]
    · obtain ⟨m, hm, rfl⟩ := mi_pos (x := y) (by
        rw [Int32.lt_iff_toInt_lt] at c1 ⊢
        have e1 : (1 : Int32).toInt = 1 := rfl
        have e0 : (0 : Int32).toInt = 0 := rfl
        omega)
      have c1' : 1 ≤ m := by rw [show (1 : Int32) = nI 1 from rfl, mi_lt hm (by omega)] at c1; omega
      have c2' : m ≤ 8 := by rw [show (8 : Int32) = nI 8 from rfl, mi_lt (by omega) hm] at c2; omega
      by_cases c3 : 80 < n + m
      · refine ⟨-1, t, mw_wi t 49 0 0, ?_, ?_, n, h1, h2, h3, h4⟩
        · rw [mf_Sieve_put, mf_Sieve_isByteCount, if_neg c1, if_neg c2, mi_bs, if_neg (by decide), mf_Packet_hasRoom, h2, mi_add, if_pos (show (80 : Int32) < nI (n + m) from mi_ltT (a := 80) (by omega) c3), mi_b, if_pos rfl]
        · rw [mf_Model_put, if_neg c1, if_neg c2, h3, mi_add, if_pos (show (80 : Int32) < nI (n + m) from mi_ltT (a := 80) (by omega) c3)]
      · obtain ⟨f, rfl⟩ : ∃ f, N = m + 1 + f := ⟨N - (m + 1), by omega⟩
        refine ⟨nI (n + m), mw_wi (mi_puts 4 n x m 0 t) 3 1 (nI (n + m)), mw_wi (mi_puts 83 n x m 0 (mw_wi (mw_wi (mi_puts 4 n x m 0 t) 3 1 (nI (n + m))) 49 0 0)) 49 50 (nI (n + m)), ?_, ?_, n + m, by omega, ?_, ?_, fun i hi => ?_⟩
        · rw [mf_Sieve_put, mf_Sieve_isByteCount, if_neg c1, if_neg c2, mi_bs, if_neg (by decide), mf_Packet_hasRoom, h2, mi_add, if_neg (show ¬ (80 : Int32) < nI (n + m) from mi_ltF (a := 80) (by omega) (by omega)), mi_b, if_neg (by decide), mf_Packet_append, show (0 : Int32) = nI 0 from rfl, mi_append _ R x m n c2' (by omega) m 0 f t (by omega) h2, mi_b, mf_Packet_length, mi_b]
          rfl
        · have e1 : (mw_wi (mw_wi (mi_puts 4 n x m 0 t) 3 1 (nI (n + m))) 49 0 (nI 0)).1 49 50 = nI n := by
            rw [mi_wi, if_pos rfl, if_neg (by decide), mi_wi, if_neg (by decide), mi_puts1, if_neg (by omega), h3]
          have e2 : (mw_wi (mi_puts 4 n x m 0 t) 3 1 (nI (n + m))).1 49 50 = nI n := by
            rw [mi_wi, if_neg (by decide), mi_puts1, if_neg (by omega), h3]
          rw [mf_Model_put, if_neg c1, if_neg c2, e2, mi_add, if_neg (show ¬ (80 : Int32) < nI (n + m) from mi_ltF (a := 80) (by omega) (by omega)), show (0 : Int32) = nI 0 from rfl, mi_mput _ R x m n c2' (by omega) m 0 f _ (by omega) e1]
        · rw [mi_wi, if_neg (by decide), mi_puts1, if_neg (by omega), mi_wi, if_neg (by decide), mi_wi, if_pos rfl, if_pos rfl]
        · rw [mi_wi, if_pos rfl, if_pos rfl]
        · obtain ⟨c, g1, g2, g3⟩ := h4 i hi
          obtain ⟨d, k1, k2⟩ := mi_byte_nI x (i - n)
          by_cases e : n ≤ i ∧ i < n + m
          · refine ⟨d, k1, ?_, ?_⟩
            · rw [mi_wi, if_neg (by decide), mi_puts1, if_neg (by omega), mi_wi, if_neg (by decide), mi_wi, if_neg (by decide), mi_puts1, if_pos (by omega), k2]
            · rw [mi_wi, if_neg (by decide), mi_puts1, if_pos (by omega), k2]
          · refine ⟨c, g1, ?_, ?_⟩
            · rw [mi_wi, if_neg (by decide), mi_puts1, if_neg (by omega), mi_wi, if_neg (by decide), mi_wi, if_neg (by decide), mi_puts1, if_neg (by omega), g2]
            · rw [mi_wi, if_neg (by decide), mi_puts1, if_neg (by omega), mi_wi, if_neg (by decide), mi_wi, if_neg (by decide), mi_puts1, if_neg (by omega), g3]
theorem ml_state (N R o : Nat) (x : Int32) {t : mw_T} (h : mi_Mac t) : ∃ v t1 t2, mf_Sieve_state N R o x t = some (.inl v, t1) ∧ mf_Model_state N R x t1 = some (.inl v, t2) ∧ mi_Mac t2 := by
  obtain ⟨h1, h2, h3, h4⟩ := h
  have ce : ∀ (a b : Nat), a < 2147483648 → b < 2147483648 → a ≠ b → ¬ (nI a = nI b) := fun a b ha hb hab => by rw [mi_eq ha hb]; exact hab
  have hmac : mi_Mac (mw_wi t 49 0 0) := ⟨h1, h2, h3, h4⟩
  by_cases c0 : x = 0
  · subst c0
    refine ⟨t.1 5 4, t, mw_wi t 49 0 0, ?_, ?_, hmac⟩
    · rw [mf_Sieve_state, mf_Machine_report, if_pos rfl, mi_b]
    · rw [mf_Model_state, if_pos (by decide), mf_Model_state_b26, if_pos rfl, h1]; rfl
  by_cases c1 : x = 1
  · subst c1
    refine ⟨(t.2.1 5 2).toInt32, t, mw_wi t 49 0 0, ?_, ?_, hmac⟩
    · rw [mf_Sieve_state, mf_Machine_report, if_neg c0, if_pos rfl, mi_b]
    · rw [mf_Model_state, if_pos (by decide), mf_Model_state_b26, if_neg c0, if_pos rfl, h2]; rfl
  by_cases c2 : x = 2
  · subst c2
    refine ⟨(t.2.1 5 3).toInt32, t, mw_wi t 49 0 0, ?_, ?_, hmac⟩
    · rw [mf_Sieve_state, mf_Machine_report, if_neg c0, if_neg c1, if_pos rfl, mi_b]
    · rw [mf_Model_state, if_pos (by decide), mf_Model_state_b26, if_neg c0, if_neg c1, if_pos rfl, h3]; rfl
  by_cases c3 : x < 3
  · refine ⟨-1, t, mw_wi t 49 0 0, ?_, ?_, hmac⟩
    · rw [mf_Sieve_state, mf_Machine_report, if_neg c0, if_neg c1, if_neg c2, if_pos c3, mi_b]
    · rw [mf_Model_state, if_pos c3, mf_Model_state_b26, if_neg c0, if_neg c1, if_neg c2]
  by_cases c4 : x < 19
  · obtain ⟨m, hm, rfl⟩ := mi_pos (x := x) (by
      rw [Int32.lt_iff_toInt_lt] at c3 ⊢
      have e1 : (3 : Int32).toInt = 3 := rfl
      have e0 : (0 : Int32).toInt = 0 := rfl
      omega)
    have c3' : 3 ≤ m := by rw [show (3 : Int32) = nI 3 from rfl, mi_lt hm (by omega)] at c3; omega
    have c4' : m < 19 := by rw [show (19 : Int32) = nI 19 from rfl, mi_lt hm (by omega)] at c4; omega
    have e : nI m - 3 = nI (m - 3) := mi_sub c3'
    refine ⟨(t.2.1 6 (m - 3)).toInt32, t, mw_wi t 49 0 0, ?_, ?_, hmac⟩
    · rw [mf_Sieve_state, mf_Machine_report, if_neg c0, if_neg c1, if_neg c2, if_neg c3, if_pos c4, e, if_pos (mi_inT (by omega) (by omega)), mi_tn (by omega), mi_b]
    · rw [mf_Model_state, if_neg c3, if_pos c4, e, if_pos (mi_inT (by omega) (by omega)), mi_tn (by omega), h4 _ (by omega)]
  · refine ⟨-1, t, mw_wi t 49 0 0, ?_, ?_, hmac⟩
    · rw [mf_Sieve_state, mf_Machine_report, if_neg c0, if_neg c1, if_neg c2, if_neg c3, if_neg c4, mi_b]
    · rw [mf_Model_state, if_neg c3, if_neg c4, mf_Model_state_b26, if_neg c0, if_neg c1, if_neg c2]
