/-! type: longs as naturals; characters; the law's call -/
def nL (n : Nat) : Int64 := Int64.ofNat n
theorem mi_nL (n : Nat) (h : n < 9223372036854775808) : (nL n).toInt = n := by
  unfold nL
  rw [Int64.toInt_ofNat']
  have hs : Int64.size = 18446744073709551616 := rfl
  rw [hs]
  exact Int.bmod_eq_of_le (by omega) (by omega)
theorem mi_ltL {a b : Nat} (ha : a < 9223372036854775808) (hb : b < 9223372036854775808) : (nL a < nL b) = (a < b) := by
  rw [Int64.lt_iff_toInt_lt, mi_nL a ha, mi_nL b hb]
  exact propext (by omega)
theorem mi_ltLT {a b : Nat} (hb : b < 9223372036854775808) (h : a < b) : nL a < nL b := by rw [mi_ltL (by omega) hb]; exact h
theorem mi_ltLF {a b : Nat} (ha : a < 9223372036854775808) (h : b ≤ a) : ¬ nL a < nL b := by rw [mi_ltL ha (by omega)]; omega
theorem mi_eqL {a b : Nat} (ha : a < 9223372036854775808) (hb : b < 9223372036854775808) : (nL a = nL b) = (a = b) := by
  rw [← Int64.toInt_inj, mi_nL a ha, mi_nL b hb]
  exact propext (by omega)
theorem mi_and255L (x : Int64) : ∃ c, c ≤ 255 ∧ x &&& (255 : Int64) = nL c := by
  refine ⟨(x.toBitVec &&& 255#64).toNat, ?_, ?_⟩
  · rw [BitVec.toNat_and]
    exact Nat.le_trans Nat.and_le_right (by decide)
  · rw [← Int64.toBitVec_inj]
    show x.toBitVec &&& 255#64 = BitVec.ofNat 64 (x.toBitVec &&& 255#64).toNat
    rw [BitVec.ofNat_toNat, BitVec.setWidth_eq]
theorem mi_nL32 : ∀ c, c < 256 → (nL c).toInt32 = nI c := by decide +kernel
/-- byte k as a long, in the reference's words -/
def mi_mb (x : Int64) (k : Nat) : Int64 := (x >>> (((8 : Int32) * nI k).toInt64 &&& 63)) &&& (255 : Int64)
theorem mi_mb_sp (x : Int64) {k : Nat} (h : k < 8) : ∃ c, c ≤ 255 ∧ mi_mb x k = nL c ∧ mi_byte x k = nI c := by
  obtain ⟨c, h1, h2⟩ := mi_and255L (x >>> (((8 : Int32) * nI k).toInt64 &&& 63))
  refine ⟨c, h1, h2, ?_⟩
  rw [← mi_byte_m x h, h2]
  exact mi_nL32 c (by omega)
def mi_okc (c : Int32) : Bool := !decide (c < 32) && !decide (126 < c)
theorem mi_okc_nI {c : Nat} (h : c ≤ 255) : mi_okc (nI c) = decide (32 ≤ c ∧ c ≤ 126) := by
  have e : ∀ c, c < 256 → mi_okc (nI c) = decide (32 ≤ c ∧ c ≤ 126) := by decide +kernel
  exact e c (by omega)
def mi_okn (x : Int64) (k : Nat) : Nat → Bool
  | 0 => true
  | m + 1 => mi_okc (mi_byte x k) && mi_okn x (k + 1) m
theorem mi_okn_sp {x : Int64} : ∀ (m k : Nat), mi_okn x k m = true → ∀ j, k ≤ j → j < k + m → mi_okc (mi_byte x j) = true := by
  intro m
  induction m with
  | zero => intro k _ j h1 h2; omega
  | succ m ih =>
    intro k h j h1 h2
    rw [mi_okn, Bool.and_eq_true] at h
    by_cases e : j = k
    · subst e; exact h.1
    · exact ih (k + 1) h.2 j (by omega) (by omega)
theorem mi_areCh (N R : Nat) (x : Int64) (n : Nat) (hn : n ≤ 8) (t : mw_T) : ∀ (m k f : Nat), k + m = n → mf_Text_areCharacters_l2 N R (m + 1 + f) x (nI n) (nI k) t = some (.inl (if mi_okn x k m = true then 1 else 0), t) := by
  intro m
  induction m with
  | zero =>
    intro k f hk
    rw [show 0 + 1 + f = f + 1 by omega, me_Text_areCharacters_l2, mf_Text_areCharacters_l2B, if_neg (mi_ltF (by omega) (by omega)), mi_okn, if_pos rfl]
  | succ m ih =>
    intro k f hk
    rw [show m + 1 + 1 + f = (m + 1 + f) + 1 by omega, me_Text_areCharacters_l2, mf_Text_areCharacters_l2B, if_pos (mi_ltT (by omega) (by omega)), mi_byteOf, mi_bs, mi_l1, mi_add, ih (k + 1) f (by omega), mi_okn, mi_okc]
    by_cases c1 : mi_byte x k < 32
    · rw [if_pos c1, decide_eq_true c1, if_neg (by simp)]
    · rw [if_neg c1]
      by_cases c2 : 126 < mi_byte x k
      · rw [if_pos c2, decide_eq_true c2, if_neg (by simp)]
      · rw [if_neg c2, decide_eq_false c1, decide_eq_false c2]
        rfl
theorem mi_mok (N R : Nat) (x : Int64) (n : Nat) (hn : n ≤ 8) (t : mw_T) : ∀ (m k f : Nat), k + m = n → mf_Model_type_l21 N R (m + 1 + f) x (nI n) 1 (nI k) t = mf_Model_type_b54 N R x (nI n) (if mi_okn x k m = true then 1 else 0) t := by
  intro m
  induction m with
  | zero =>
    intro k f hk
    rw [show 0 + 1 + f = f + 1 by omega, me_Model_type_l21, mf_Model_type_l21B, if_neg (mi_ltF (by omega) (by omega)), mi_okn, if_pos rfl]
  | succ m ih =>
    intro k f hk
    obtain ⟨c, h1, h2, h3⟩ := mi_mb_sp x (k := k) (by omega)
    rw [show m + 1 + 1 + f = (m + 1 + f) + 1 by omega, me_Model_type_l21, mf_Model_type_l21B, if_pos (mi_ltT (by omega) (by omega)), if_neg (by decide), mi_l1, mi_add]
    rw [show ((x >>> (((8 : Int32) * nI k).toInt64 &&& 63)) &&& (255 : Int64)) = nL c from h2, mi_okn, h3, mi_okc_nI h1, mf_Model_isCharacter]
    have stop : ∀ (_ : Nat), mf_Model_type_l21 N R (m + 1 + f) x (nI n) 0 (nI (k + 1)) t = mf_Model_type_b54 N R x (nI n) 0 t := by
      intro _
      rw [show m + 1 + f = (m + f) + 1 by omega, me_Model_type_l21, mf_Model_type_l21B, if_pos rfl]
      split <;> rfl
    by_cases c1 : c < 32
    · rw [if_pos (show nL c < (32 : Int64) from mi_ltLT (b := 32) (by omega) c1), mi_bs, stop 0, decide_eq_false (by omega), if_neg (by simp)]
    · rw [if_neg (show ¬ nL c < (32 : Int64) from mi_ltLF (b := 32) (by omega) (by omega))]
      by_cases c2 : 126 < c
      · rw [if_pos (show (126 : Int64) < nL c from mi_ltLT (a := 126) (by omega) c2), mi_bs, stop 0, decide_eq_false (by omega), if_neg (by simp)]
      · rw [if_neg (show ¬ (126 : Int64) < nL c from mi_ltLF (a := 126) (by omega) (by omega)), mi_bs, ih (k + 1) f (by omega), decide_eq_true (by omega)]
        rfl
theorem mi_narB : ∀ c, c < 127 → vp_nar .byte (nI c).toInt8.toInt32 = nI c := by decide +kernel
theorem mi_narC : ∀ c, c < 127 → vp_nar .char ((nI c).toUInt32 % 65536).toInt32 = nI c := by decide +kernel
theorem mi_tapp (N R : Nat) (x : Int64) (n p : Nat) (hn : n ≤ 8) (hp : p + n ≤ 160) (hok : ∀ j, j < n → ∃ c, 32 ≤ c ∧ c ≤ 126 ∧ mi_byte x j = nI c) : ∀ (m k f : Nat) (t : mw_T), k + m = n → t.1 1 1 = nI p → mf_Text_append_l3 N R (m + 1 + f) x (nI n) (nI k) t = some (.inl (), mw_wi (mi_puts 2 p x m k t) 1 1 (nI (p + n))) := by
  intro m
  induction m with
  | zero =>
    intro k f t hk ht
    rw [show 0 + 1 + f = f + 1 by omega, me_Text_append_l3, mf_Text_append_l3B, if_neg (mi_ltF (by omega) (by omega)), ht, mi_add]
    rfl
  | succ m ih =>
    intro k f t hk ht
    obtain ⟨c, c1, c2, c3⟩ := hok k (by omega)
    rw [show m + 1 + 1 + f = (m + 1 + f) + 1 by omega, me_Text_append_l3, mf_Text_append_l3B, if_pos (mi_ltT (by omega) (by omega)), mi_byteOf, mi_bs, ht, mi_add, if_pos (mi_inT (by omega) (by omega)), mi_tn (by omega), mi_l1, mi_add, c3, mi_narB c (by omega), ← c3]
    exact ih (k + 1) f _ (by omega) ht
theorem mi_mtyp (N R : Nat) (x : Int64) (n p : Nat) (hn : n ≤ 8) (hp : p + n ≤ 160) (hok : ∀ j, j < n → ∃ c, 32 ≤ c ∧ c ≤ 126 ∧ mi_byte x j = nI c) : ∀ (m k f : Nat) (t : mw_T), k + m = n → t.1 49 1 = nI p → t.1 49 0 = 0 → mf_Model_type_l87 N R (m + 1 + f) x (nI n) (nI k) t = some (.inl (nI (p + n)), mw_wi (mi_puts 50 p x m k t) 49 1 (nI (p + n))) := by
  intro m
  induction m with
  | zero =>
    intro k f t hk ht h0
    rw [show 0 + 1 + f = f + 1 by omega, me_Model_type_l87, mf_Model_type_l87B, if_neg (mi_ltF (by omega) (by omega)), mf_Model_type_b131, if_pos h0, mf_Model_type_b148, if_pos h0, ht, mi_add]
    rfl
  | succ m ih =>
    intro k f t hk ht h0
    obtain ⟨c, c1, c2, c3⟩ := hok k (by omega)
    rw [show m + 1 + 1 + f = (m + 1 + f) + 1 by omega, me_Model_type_l87, mf_Model_type_l87B, if_pos (mi_ltT (by omega) (by omega)), if_pos h0, ht, mi_add, if_pos (mi_inT (by omega) (by omega)), mi_tn (by omega), mi_l1, mi_add, mi_byte_m x (by omega), c3, mi_narC c (by omega), ← c3]
    exact ih (k + 1) f _ (by omega) ht h0
/-- a refused type of the reference -/
theorem mi_mref (N R : Nat) (x : Int64) (y : Int32) (q : Int32) (hq : ¬ q = 0) (n p : Nat) (t : mw_T) (hp : t.1 49 1 = nI p) (hN : n + 1 = N) : mf_Model_type_b81 N R x y q t = some (.inl 0, mw_wi (mw_wi t 49 0 q) 49 1 (nI p)) := by
  subst hN
  have e : ∀ (T : mw_T), T.1 49 0 = q → T.1 49 1 = nI p → mf_Model_type_b131 (n + 1) R y T = some (.inl 0, mw_wi T 49 1 (nI p)) := by
    intro T h1 h2
    rw [mf_Model_type_b131, if_neg (by rw [h1]; exact hq), mf_Model_type_b148, if_neg (by rw [h1]; exact hq), h2, show (0 : Int32) = nI 0 from rfl, mi_add]
    rfl
  have h2 : (mw_wi t 49 0 q).1 49 1 = nI p := hp
  rw [mf_Model_type_b81, me_Model_type_l87, mf_Model_type_l87B, if_neg (show ¬ (mw_wi t 49 0 q).1 49 0 = 0 from hq), e _ rfl h2]
  split <;> rfl
theorem ml_type (N R o : Nat) (hN : 10 ≤ N) (x : Int64) (y : Int32) {t : mw_T} (h : mi_Txt t) : ∃ v t1 b t2, mf_Law_type N R o x y t = some (.inl v, t1) ∧ mf_Model_type N R x y t1 = some (.inl b, t2) ∧ mf_Model_thrown N R t2 = some (.inl v, t2) ∧ (v = 0 → t2.2.1 85 0 = b.toInt64) ∧ mi_Txt t2 ∧ t2.2.2 ≤ t.2.2 + 1 := by
  obtain ⟨n, h1, h2, h3, h4⟩ := h
  -- refused by both, with this kind
  have ref : ∀ (q : Nat) (v : Int32), (q = 0 ∧ v = 1) ∨ (q = 1 ∧ v = 2) → mf_Sieve_type N R o x y t = some (.inr q, mw_we t) → mf_Model_type N R x y (mw_we t) = mf_Model_type_b81 N R x y v (mw_we t) →
      ∃ v t1 b t2, mf_Law_type N R o x y t = some (.inl v, t1) ∧ mf_Model_type N R x y t1 = some (.inl b, t2) ∧ mf_Model_thrown N R t2 = some (.inl v, t2) ∧ (v = 0 → t2.2.1 85 0 = b.toInt64) ∧ mi_Txt t2 ∧ t2.2.2 ≤ t.2.2 + 1 := by
    intro q v hqv e1 e2
    have hv : ¬ v = 0 := by rcases hqv with ⟨_, rfl⟩ | ⟨_, rfl⟩ <;> decide
    refine ⟨v, mw_we t, 0, mw_wi (mw_wi (mw_we t) 49 0 v) 49 1 (nI n), ?_, ?_, ?_, fun h => absurd h hv, ⟨n, h1, h2, rfl, h4⟩, Nat.le_refl _⟩
    · rw [mf_Law_type, e1, mi_tx]
      rcases hqv with ⟨rfl, rfl⟩ | ⟨rfl, rfl⟩ <;> rfl
    · rw [e2, mi_mref N R x y v hv (N - 1) n (mw_we t) h3 (by omega)]
    · rfl
  by_cases c1 : y < 1
  · refine ref 0 1 (Or.inl ⟨rfl, rfl⟩) ?_ ?_
    · rw [mf_Sieve_type, mf_Sieve_isByteCount, if_pos c1, mi_bs, if_pos rfl]
    · obtain ⟨n', rfl⟩ : ∃ n', N = n' + 1 := ⟨N - 1, by omega⟩
      rw [mf_Model_type, if_pos c1, mf_Model_type_b15, mf_Model_type_b16, me_Model_type_l21, mf_Model_type_l21B, if_pos rfl, mf_Model_type_b54, if_pos rfl]
      split <;> rfl
  · by_cases c2 : 8 < y
    · refine ref 0 1 (Or.inl ⟨rfl, rfl⟩) ?_ ?_
      · rw [mf_Sieve_type, mf_Sieve_isByteCount, if_neg c1, if_pos c2, mi_bs, if_pos rfl]
      · obtain ⟨n', rfl⟩ : ∃ n', N = n' + 1 := ⟨N - 1, by omega⟩
        rw [mf_Model_type, if_neg c1, if_pos c2, mf_Model_type_b15, mf_Model_type_b16, me_Model_type_l21, mf_Model_type_l21B, if_pos rfl, mf_Model_type_b54, if_pos rfl]
        split <;> rfl
    · obtain ⟨m, hm, rfl⟩ := mi_pos (x := y) (by
        rw [Int32.lt_iff_toInt_lt] at c1 ⊢
        have e1 : (1 : Int32).toInt = 1 := rfl
        have e0 : (0 : Int32).toInt = 0 := rfl
        omega)
      have c1' : 1 ≤ m := by rw [show (1 : Int32) = nI 1 from rfl, mi_lt hm (by omega)] at c1; omega
      have c2' : m ≤ 8 := by rw [show (8 : Int32) = nI 8 from rfl, mi_lt (by omega) hm] at c2; omega
      obtain ⟨f, rfl⟩ : ∃ f, N = m + 1 + f := ⟨N - (m + 1), by omega⟩
      have hA : mf_Text_areCharacters (m + 1 + f) R x (nI m) t = some (.inl (if mi_okn x 0 m = true then 1 else 0), t) := mi_areCh _ R x m c2' t m 0 f (by omega)
      have hM : ∀ T, mf_Model_type (m + 1 + f) R x (nI m) T = mf_Model_type_b54 (m + 1 + f) R x (nI m) (if mi_okn x 0 m = true then 1 else 0) T := by
        intro T
        rw [mf_Model_type, if_neg c1, if_neg c2, mf_Model_type_b16]
        exact mi_mok _ R x m c2' T m 0 f (by omega)
      by_cases c3 : mi_okn x 0 m = true
      · rw [if_pos c3] at hA
        have hM' : ∀ T, mf_Model_type (m + 1 + f) R x (nI m) T = if (160 : Int32) < ((T.1 49 1) + nI m) then mf_Model_type_b81 (m + 1 + f) R x (nI m) 2 T else mf_Model_type_b81 (m + 1 + f) R x (nI m) 0 T := by
          intro T; rw [hM T, if_pos c3, mf_Model_type_b54, if_neg (by decide)]
        by_cases c4 : 160 < n + m
        · refine ref 1 2 (Or.inr ⟨rfl, rfl⟩) ?_ ?_
          · rw [mf_Sieve_type, mf_Sieve_isByteCount, if_neg c1, if_neg c2, mi_bs, if_neg (by decide), hA, mi_bs, if_neg (by decide), mf_Text_hasRoom, h2, mi_add, if_pos (show (160 : Int32) < nI (n + m) from mi_ltT (a := 160) (by omega) c4), mi_b, if_pos rfl]
          · rw [hM', show (mw_we t).1 49 1 = nI n from h3, mi_add, if_pos (show (160 : Int32) < nI (n + m) from mi_ltT (a := 160) (by omega) c4)]
        · have hok : ∀ j, j < m → ∃ c, 32 ≤ c ∧ c ≤ 126 ∧ mi_byte x j = nI c := by
            intro j hj
            obtain ⟨c, d1, d2⟩ := mi_byte_nI x j
            have := mi_okn_sp m 0 c3 j (by omega) (by omega)
            rw [d2, mi_okc_nI d1, decide_eq_true_eq] at this
            exact ⟨c, this.1, this.2, d2⟩
          refine ⟨0, mw_wl (mw_wi (mi_puts 2 n x m 0 t) 1 1 (nI (n + m))) 85 0 (nI (n + m)).toInt64, nI (n + m), mw_wi (mi_puts 50 n x m 0 (mw_wi (mw_wl (mw_wi (mi_puts 2 n x m 0 t) 1 1 (nI (n + m))) 85 0 (nI (n + m)).toInt64) 49 0 0)) 49 1 (nI (n + m)), ?_, ?_, ?_, fun _ => ?_, ⟨n + m, by omega, ?_, ?_, fun i hi => ?_⟩, ?_⟩
          · rw [mf_Law_type, mf_Sieve_type, mf_Sieve_isByteCount, if_neg c1, if_neg c2, mi_bs, if_neg (by decide), hA, mi_bs, if_neg (by decide), mf_Text_hasRoom, h2, mi_add, if_neg (show ¬ (160 : Int32) < nI (n + m) from mi_ltF (a := 160) (by omega) (by omega)), mi_b, if_neg (by decide), mf_Text_append, show (0 : Int32) = nI 0 from rfl, mi_tapp _ R x m n c2' (by omega) hok m 0 f t (by omega) h2, mi_b, mf_Text_length, mi_b, mi_t]
            rfl
          · rw [hM', show (mw_wl (mw_wi (mi_puts 2 n x m 0 t) 1 1 (nI (n + m))) 85 0 (nI (n + m)).toInt64).1 49 1 = nI n by
              rw [mi_wl1, mi_wi, if_neg (by decide), mi_puts1, if_neg (by omega), h3]]
            rw [mi_add, if_neg (show ¬ (160 : Int32) < nI (n + m) from mi_ltF (a := 160) (by omega) (by omega)), mf_Model_type_b81]
            rw [show (0 : Int32) = nI 0 from rfl, mi_mtyp _ R x m n c2' (by omega) hok m 0 f _ (by omega) ?_ rfl]
            rw [mi_wi, if_pos rfl, if_neg (by decide), mi_wl1, mi_wi, if_neg (by decide), mi_puts1, if_neg (by omega), h3]
          · rw [mf_Model_thrown, mi_wi, if_pos rfl, if_neg (by decide), mi_puts1, if_neg (by omega)]
            rfl
          · rw [mi_wi2, mi_puts2, mi_wi2, mi_wl, if_pos rfl, if_pos rfl]
          · rw [mi_wi, if_neg (by decide), mi_puts1, if_neg (by omega), mi_wi, if_neg (by decide), mi_wl1, mi_wi, if_pos rfl, if_pos rfl]
          · rw [mi_wi, if_pos rfl, if_pos rfl]
          · by_cases e : i < n
            · obtain ⟨c, g1, g2, g3, g4⟩ := h4 i e
              refine ⟨c, g1, g2, ?_, ?_⟩
              · rw [mi_wi, if_neg (by decide), mi_puts1, if_neg (by omega), mi_wi, if_neg (by decide), mi_wl1, mi_wi, if_neg (by decide), mi_puts1, if_neg (by omega), g3]
              · rw [mi_wi, if_neg (by decide), mi_puts1, if_neg (by omega), mi_wi, if_neg (by decide), mi_wl1, mi_wi, if_neg (by decide), mi_puts1, if_neg (by omega), g4]
            · obtain ⟨c, g1, g2, g3⟩ := hok (i - n) (by omega)
              refine ⟨c, g1, g2, ?_, ?_⟩
              · rw [mi_wi, if_neg (by decide), mi_puts1, if_neg (by omega), mi_wi, if_neg (by decide), mi_wl1, mi_wi, if_neg (by decide), mi_puts1, if_pos (by omega), g3]
              · rw [mi_wi, if_neg (by decide), mi_puts1, if_pos (by omega), g3]
          · rw [mi_wi2, mi_puts2, mi_wi2, mi_wl2, mi_wi2, mi_puts2]
            exact Nat.le_succ _
      · rw [if_neg c3] at hA
        refine ref 0 1 (Or.inl ⟨rfl, rfl⟩) ?_ ?_
        · rw [mf_Sieve_type, mf_Sieve_isByteCount, if_neg c1, if_neg c2, mi_bs, if_neg (by decide), hA, mi_bs, if_pos rfl]
        · rw [hM, if_neg c3, mf_Model_type_b54, if_pos rfl]
