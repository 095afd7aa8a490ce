/-! THE TOKENS OF A TEXT -/
def mk_ch (S : List Nat) (p : Nat) : Nat := S.getD p 0
def mk_isL (c : Nat) : Bool := Nat.ble 97 c && Nat.ble c 122
def mk_isD (c : Nat) : Bool := Nat.ble 48 c && Nat.ble c 57
def mk_sc (pr : Nat → Bool) (S : List Nat) : Nat → Nat → Nat
  | 0, p => p
  | f + 1, p => if pr (mk_ch S p) = true then mk_sc pr S f (p + 1) else p
def mk_nv (S : List Nat) : Nat → Nat → Nat → Nat
  | 0, _, v => v
  | k + 1, p, v => mk_nv S k (p + 1) (min (v * 10 + (mk_ch S p - 48)) 4294967296)
def mk_t2 (c d : Nat) : Bool := Nat.beq (c * 256 + d) 8509 || Nat.beq (c * 256 + d) 15421 || Nat.beq (c * 256 + d) 15933 || Nat.beq (c * 256 + d) 15420 || Nat.beq (c * 256 + d) 15934
def mk_wd (S : List Nat) (p e : Nat) : List Nat := (List.range (e - p)).map (fun j => mk_ch S (p + j))
def mk_s (w : Nat) : List Nat := mj_sc.getD w []
def mk_wk (W : List Nat) : Nat :=
  if W = mk_s 0 then 3 else if W = mk_s 1 then 4 else if W = mk_s 2 then 5 else if W = mk_s 3 then 6 else if W = mk_s 4 then 7 else if W = mk_s 5 then 8 else if W = mk_s 6 then 9 else if W = mk_s 7 then 10 else if W = mk_s 8 then 11 else if W = mk_s 9 then 12 else if W = mk_s 10 then 13 else if W = mk_s 11 then 14 else if W = mk_s 12 then 15 else 2
def mk_tok (S : List Nat) (p : Nat) : (Nat × Nat) × Nat :=
  if mk_isL (mk_ch S p) = true then ((mk_wk (mk_wd S p (mk_sc mk_isL S S.length p)), 0), mk_sc mk_isL S S.length p) else
  if mk_isD (mk_ch S p) = true then (if 4294967295 < mk_nv S (mk_sc mk_isD S S.length p - p) p 0 then (2, 0) else (1, mk_nv S (mk_sc mk_isD S S.length p - p) p 0), mk_sc mk_isD S S.length p) else
  if mk_t2 (mk_ch S p) (mk_ch S (p + 1)) = true then ((mk_ch S p * 256 + mk_ch S (p + 1), 0), p + 2) else ((mk_ch S p, 0), p + 1)
def mk_lex (S : List Nat) : Nat → Nat → mk_L
  | 0, _ => []
  | f + 1, p => if S.length ≤ p then [] else if mk_ch S p = 32 then mk_lex S f (p + 1) else (mk_tok S p).1 :: mk_lex S f (mk_tok S p).2
/-- a text: characters from 32 to 126 -/
def mk_SX (S : List Nat) : Prop := S.length ≤ 160 ∧ ∀ c ∈ S, 32 ≤ c ∧ c ≤ 126
theorem mk_ch_lt {S : List Nat} (h : mk_SX S) (p : Nat) : mk_ch S p ≤ 126 ∧ (p < S.length → 32 ≤ mk_ch S p) := by
  unfold mk_ch
  rw [List.getD_eq_getElem?_getD]
  by_cases hp : p < S.length
  · rw [List.getElem?_eq_getElem hp]
    have := h.2 _ (List.getElem_mem hp)
    exact ⟨this.2, fun _ => this.1⟩
  · rw [List.getElem?_eq_none (by omega)]
    exact ⟨by decide, fun h => absurd h hp⟩
theorem mk_ch_0 {S : List Nat} {p : Nat} (h : S.length ≤ p) : mk_ch S p = 0 := by
  unfold mk_ch
  rw [List.getD_eq_getElem?_getD, List.getElem?_eq_none h]; rfl
theorem mk_sc_le (pr : Nat → Bool) (S : List Nat) : ∀ f p, p ≤ mk_sc pr S f p := by
  intro f
  induction f with
  | zero => intro p; exact Nat.le_refl _
  | succ f ih =>
    intro p
    rw [mk_sc]
    split
    · have := ih (p + 1); omega
    · exact Nat.le_refl _
theorem mk_sc_in (pr : Nat → Bool) (S : List Nat) : ∀ f p j, p ≤ j → j < mk_sc pr S f p → pr (mk_ch S j) = true := by
  intro f
  induction f with
  | zero => intro p j h1 h2; rw [mk_sc] at h2; omega
  | succ f ih =>
    intro p j h1 h2
    rw [mk_sc] at h2
    split at h2
    · rename_i hp
      by_cases e : j = p
      · rw [e]; exact hp
      · exact ih (p + 1) j (by omega) h2
    · omega
theorem mk_sc_out (pr : Nat → Bool) (h0 : pr 0 = false) (S : List Nat) : ∀ f p, S.length ≤ f + p → p ≤ S.length → pr (mk_ch S (mk_sc pr S f p)) = false ∧ mk_sc pr S f p ≤ S.length := by
  intro f
  induction f with
  | zero =>
    intro p h1 h2
    rw [mk_sc, mk_ch_0 (by omega)]
    exact ⟨h0, h2⟩
  | succ f ih =>
    intro p h1 h2
    rw [mk_sc]
    split
    · rename_i hp
      have : p < S.length := by
        by_cases e : p < S.length
        · exact e
        · rw [mk_ch_0 (by omega), h0] at hp; cases hp
      exact ih (p + 1) (by omega) (by omega)
    · rename_i hp
      exact ⟨by simpa using hp, h2⟩
theorem mk_sc_lt (pr : Nat → Bool) (S : List Nat) {f p : Nat} (hf : 0 < f) (h : pr (mk_ch S p) = true) : p < mk_sc pr S f p := by
  obtain ⟨f, rfl⟩ : ∃ k, f = k + 1 := ⟨f - 1, by omega⟩
  rw [mk_sc, if_pos h]
  have := mk_sc_le pr S f (p + 1); omega
theorem mk_tok_lt {S : List Nat} {p : Nat} (hp : p < S.length) : p < (mk_tok S p).2 ∧ (mk_tok S p).2 ≤ S.length := by
  unfold mk_tok
  split
  · rename_i h
    exact ⟨mk_sc_lt _ _ (by omega) h, (mk_sc_out mk_isL (by decide) S S.length p (by omega) (by omega)).2⟩
  split
  · rename_i h
    exact ⟨mk_sc_lt _ _ (by omega) h, (mk_sc_out mk_isD (by decide) S S.length p (by omega) (by omega)).2⟩
  split
  · rename_i h
    refine ⟨by simp only; omega, ?_⟩
    simp only
    by_cases e : p + 1 < S.length
    · omega
    · rw [mk_ch_0 (p := p + 1) (by omega)] at h
      unfold mk_t2 at h
      simp only [Bool.or_eq_true, Nat.beq_eq] at h
      omega
  · exact ⟨by simp only; omega, by simp only; omega⟩
theorem mk_lex_f (S : List Nat) : ∀ f g p, S.length < f + p → S.length < g + p → mk_lex S f p = mk_lex S g p := by
  intro f
  induction f with
  | zero =>
    intro g p h1 h2
    cases g with
    | zero => rfl
    | succ g => rw [mk_lex, mk_lex, if_pos (by omega)]
  | succ f ih =>
    intro g p h1 h2
    cases g with
    | zero => rw [mk_lex, mk_lex, if_pos (by omega)]
    | succ g =>
      rw [mk_lex, mk_lex]
      split
      · rfl
      split
      · exact ih g (p + 1) (by omega) (by omega)
      · have := (mk_tok_lt (S := S) (p := p) (by omega)).1
        rw [ih g _ (by omega) (by omega)]
/-- the tokens from a place on -/
def mk_lx (S : List Nat) (p : Nat) : mk_L := mk_lex S (S.length + 1) p
theorem mk_lx_end {S : List Nat} {p : Nat} (h : S.length ≤ p) : mk_lx S p = [] := by rw [mk_lx, mk_lex, if_pos h]
theorem mk_lx_sp {S : List Nat} {p : Nat} (hp : p < S.length) (h : mk_ch S p = 32) : mk_lx S p = mk_lx S (p + 1) := by
  rw [mk_lx, mk_lex, if_neg (by omega), if_pos h]
  exact mk_lex_f S _ _ _ (by omega) (by omega)
theorem mk_lx_tok {S : List Nat} {p : Nat} (hp : p < S.length) (h : mk_ch S p ≠ 32) : mk_lx S p = (mk_tok S p).1 :: mk_lx S (mk_tok S p).2 := by
  have := (mk_tok_lt hp).1
  rw [mk_lx, mk_lex, if_neg (by omega), if_neg h, mk_lex_f S S.length (S.length + 1) _ (by omega) (by omega)]
  rfl
theorem mk_nv_le (S : List Nat) : ∀ k p v, v ≤ 4294967296 → mk_nv S k p v ≤ 4294967296 := by
  intro k
  induction k with
  | zero => intro p v h; exact h
  | succ k ih => intro p v h; rw [mk_nv]; exact ih _ _ (Nat.min_le_right _ _)
theorem mk_iteb {P : Prop} [Decidable P] {a b lo hi : Nat} (ha : lo ≤ a ∧ a ≤ hi) (hb : lo ≤ b ∧ b ≤ hi) : lo ≤ (if P then a else b) ∧ (if P then a else b) ≤ hi := by
  by_cases h : P
  · rw [if_pos h]; exact ha
  · rw [if_neg h]; exact hb
theorem mk_wk_le (W : List Nat) : 2 ≤ mk_wk W ∧ mk_wk W ≤ 15 := by
  unfold mk_wk
  exact mk_iteb ⟨by omega, by omega⟩ (mk_iteb ⟨by omega, by omega⟩ (mk_iteb ⟨by omega, by omega⟩ (mk_iteb ⟨by omega, by omega⟩ (mk_iteb ⟨by omega, by omega⟩ (mk_iteb ⟨by omega, by omega⟩ (mk_iteb ⟨by omega, by omega⟩ (mk_iteb ⟨by omega, by omega⟩ (mk_iteb ⟨by omega, by omega⟩ (mk_iteb ⟨by omega, by omega⟩ (mk_iteb ⟨by omega, by omega⟩ (mk_iteb ⟨by omega, by omega⟩ (mk_iteb ⟨by omega, by omega⟩ (⟨by omega, by omega⟩)))))))))))))
theorem mk_tok_ok {S : List Nat} (hS : mk_SX S) {p : Nat} (hp : p < S.length) (h32 : mk_ch S p ≠ 32) : (mk_tok S p).1.1 ≠ 0 ∧ (mk_tok S p).1.1 < 100000 ∧ (mk_tok S p).1.2 < 4294967296 := by
  obtain ⟨c1, c2⟩ := mk_ch_lt hS p
  obtain ⟨d1, _⟩ := mk_ch_lt hS (p + 1)
  have := c2 hp
  unfold mk_tok
  split
  · have := mk_wk_le (mk_wd S p (mk_sc mk_isL S S.length p))
    exact ⟨by simp only; omega, by simp only; omega, by simp only; omega⟩
  split
  · split
    · exact ⟨by simp only; omega, by simp only; omega, by simp only; omega⟩
    · exact ⟨by simp only; omega, by simp only; omega, by simp only; omega⟩
  split
  · exact ⟨by simp only; omega, by simp only; omega, by simp only; omega⟩
  · exact ⟨by simp only; omega, by simp only; omega, by simp only; omega⟩
theorem mk_lx_ok {S : List Nat} (hS : mk_SX S) : ∀ k p, S.length ≤ p + k → mk_wT (mk_lx S p) ∧ (mk_lx S p).length ≤ S.length - p := by
  intro k
  induction k with
  | zero =>
    intro p hk
    rw [mk_lx_end (by omega)]
    exact ⟨fun z hz => (by cases hz), Nat.zero_le _⟩
  | succ k ih =>
    intro p hk
    by_cases hp : p < S.length
    · by_cases h32 : mk_ch S p = 32
      · rw [mk_lx_sp hp h32]
        obtain ⟨a, b⟩ := ih (p + 1) (by omega)
        exact ⟨a, by omega⟩
      · obtain ⟨t1, t2⟩ := mk_tok_lt hp
        rw [mk_lx_tok hp h32]
        obtain ⟨a, b⟩ := ih (mk_tok S p).2 (by omega)
        refine ⟨fun z hz => ?_, by rw [List.length_cons]; omega⟩
        rcases List.mem_cons.mp hz with rfl | hz
        · exact mk_tok_ok hS hp h32
        · exact a z hz
    · rw [mk_lx_end (by omega)]
      exact ⟨fun z hz => (by cases hz), Nat.zero_le _⟩
/-! the text in the two programs -/
def mk_TX (S : List Nat) (t : mw_T) : Prop := mk_SX S ∧ t.1 1 1 = nI S.length ∧ t.1 49 1 = nI S.length ∧ ∀ (i c : Nat), S[i]? = some c → t.1 2 i = nI c ∧ t.1 50 i = nI c
theorem mk_TX_of {n : Nat} {t : mw_T} (h : mi_TxtN n t) : ∃ S, S.length = n ∧ mk_TX S t := by
  obtain ⟨h1, h2, h3, h4⟩ := h
  have key : ∀ m, m ≤ n → ∃ S : List Nat, S.length = m ∧ (∀ c ∈ S, 32 ≤ c ∧ c ≤ 126) ∧ ∀ (i c : Nat), S[i]? = some c → t.1 2 i = nI c ∧ t.1 50 i = nI c := by
    intro m
    induction m with
    | zero => intro _; exact ⟨[], rfl, fun c hc => (by cases hc), fun i c hc => (by simp at hc)⟩
    | succ m ih =>
      intro hm
      obtain ⟨S, s1, s2, s3⟩ := ih (by omega)
      obtain ⟨c, c1, c2, c3, c4⟩ := h4 m (by omega)
      refine ⟨S ++ [c], by rw [List.length_append, s1]; rfl, fun d hd => ?_, fun i d hd => ?_⟩
      · rcases List.mem_append.mp hd with hd | hd
        · exact s2 d hd
        · rw [List.mem_singleton] at hd; subst hd; exact ⟨c1, c2⟩
      · by_cases hi : i < S.length
        · rw [List.getElem?_append_left hi] at hd; exact s3 i d hd
        · rw [List.getElem?_append_right (by omega)] at hd
          have : i - S.length = 0 := by
            have := (List.getElem?_eq_some_iff.mp hd).1
            simp only [List.length_singleton] at this
            omega
          rw [this] at hd
          simp only [List.getElem?_cons_zero, Option.some.injEq] at hd
          subst hd
          rw [show i = m by omega]
          exact ⟨c3, c4⟩
  obtain ⟨S, s1, s2, s3⟩ := key n (Nat.le_refl _)
  exact ⟨S, s1, ⟨by omega, s2⟩, by rw [s1]; exact h2, by rw [s1]; exact h3, s3⟩
section
variable {N R o : Nat}
theorem mk_at {S : List Nat} {t : mw_T} (h : mk_TX S t) (p : Nat) (hp : p < 1000) : mf_Text_at N R (nI p) t = some (.inl (nI (mk_ch S p)), t) := by
  obtain ⟨h1, h2, h3, h4⟩ := h
  have := h1.1
  rw [mf_Text_at, h2]
  by_cases hl : p < S.length
  · rw [if_pos (mi_ltT (by omega) hl), if_pos (mi_inT (by omega) (by omega)), mi_tn (by omega), (h4 p _ (List.getElem?_eq_getElem hl)).1, mk_ch, List.getD_eq_getElem?_getD, List.getElem?_eq_getElem hl]
    rfl
  · rw [if_neg (mi_ltF (by omega) (by omega)), mk_ch_0 (by omega)]
    rfl
theorem mk_character {S : List Nat} {t : mw_T} (h : mk_TX S t) (p : Nat) (hp : p < 1000) : mf_Model_character N R (nI p) t = some (.inl (nI (mk_ch S p)), t) := by
  obtain ⟨h1, h2, h3, h4⟩ := h
  have := h1.1
  rw [mf_Model_character, h3]
  by_cases hl : p < S.length
  · rw [if_pos (mi_ltT (by omega) hl), if_pos (mi_inT (by omega) (by omega)), mi_tn (by omega), (h4 p _ (List.getElem?_eq_getElem hl)).2, mk_ch, List.getD_eq_getElem?_getD, List.getElem?_eq_getElem hl]
    rfl
  · rw [if_neg (mi_ltF (by omega) (by omega)), mk_ch_0 (by omega)]
    rfl
theorem mk_isLetter (c : Nat) (hc : c ≤ 126) (t : mw_T) : mf_Tokens_isLetter N R (nI c) t = some (.inl (mj_b2 (mk_isL c)), t) ∧ mf_Model_isLetter N R (nI c) t = some (.inl (mj_b2 (mk_isL c)), t) := by
  rw [mf_Tokens_isLetter, mf_Model_isLetter]
  unfold mk_isL
  by_cases h1 : c < 97
  · rw [if_pos (show nI c < (97 : Int32) from mi_ltT (b := 97) (by omega) h1), show Nat.ble 97 c = false from by rw [← Bool.not_eq_true, Nat.ble_eq]; omega]
    exact ⟨rfl, rfl⟩
  · rw [if_neg (show ¬ nI c < (97 : Int32) from mi_ltF (b := 97) (by omega) (by omega)), show Nat.ble 97 c = true from by rw [Nat.ble_eq]; omega]
    by_cases h2 : 122 < c
    · rw [if_pos (show (122 : Int32) < nI c from mi_ltT (a := 122) (by omega) h2), show Nat.ble c 122 = false from by rw [← Bool.not_eq_true, Nat.ble_eq]; omega]
      exact ⟨rfl, rfl⟩
    · rw [if_neg (show ¬ (122 : Int32) < nI c from mi_ltF (a := 122) (by omega) (by omega)), show Nat.ble c 122 = true from by rw [Nat.ble_eq]; omega]
      exact ⟨rfl, rfl⟩
theorem mk_isDigit (c : Nat) (hc : c ≤ 126) (t : mw_T) : mf_Tokens_isDigit N R (nI c) t = some (.inl (mj_b2 (mk_isD c)), t) ∧ mf_Model_isDigit N R (nI c) t = some (.inl (mj_b2 (mk_isD c)), t) := by
  rw [mf_Tokens_isDigit, mf_Model_isDigit]
  unfold mk_isD
  by_cases h1 : c < 48
  · rw [if_pos (show nI c < (48 : Int32) from mi_ltT (b := 48) (by omega) h1), show Nat.ble 48 c = false from by rw [← Bool.not_eq_true, Nat.ble_eq]; omega]
    exact ⟨rfl, rfl⟩
  · rw [if_neg (show ¬ nI c < (48 : Int32) from mi_ltF (b := 48) (by omega) (by omega)), show Nat.ble 48 c = true from by rw [Nat.ble_eq]; omega]
    by_cases h2 : 57 < c
    · rw [if_pos (show (57 : Int32) < nI c from mi_ltT (a := 57) (by omega) h2), show Nat.ble c 57 = false from by rw [← Bool.not_eq_true, Nat.ble_eq]; omega]
      exact ⟨rfl, rfl⟩
    · rw [if_neg (show ¬ (57 : Int32) < nI c from mi_ltF (a := 57) (by omega) (by omega)), show Nat.ble c 57 = true from by rw [Nat.ble_eq]; omega]
      exact ⟨rfl, rfl⟩
end
