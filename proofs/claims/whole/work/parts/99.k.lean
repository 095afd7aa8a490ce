/-! THE CLASS reads its tokens -/
theorem mi_subL {a b : Nat} (h : b ≤ a) : nL a - nL b = nL (a - b) := by
  have : nL (a - b) + nL b = nL a := by rw [mi_addL]; congr 1; omega
  rw [← this]; exact Int64.add_sub_cancel _ _
theorem mi_shl8I {c d : Nat} (hc : c ≤ 255) (hd : d ≤ 255) : (nI c <<< ((8 : Int32) &&& 31)) ||| nI d = nI (c * 256 + d) := by
  rw [← Int32.toBitVec_inj, Int32.toBitVec_or, Int32.toBitVec_shiftLeft, mi_nIb, mi_nIb, mi_nIb]
  rw [show (((8 : Int32) &&& 31).toBitVec.smod 32) = 8#32 by decide]
  apply BitVec.eq_of_toNat_eq
  rw [BitVec.toNat_or, BitVec.shiftLeft_eq', BitVec.toNat_shiftLeft, BitVec.toNat_ofNat, BitVec.toNat_ofNat, BitVec.toNat_ofNat, BitVec.toNat_ofNat, show 8 % 2 ^ 32 = 8 from rfl]
  rw [Nat.mod_eq_of_lt (a := c) (by omega), Nat.mod_eq_of_lt (a := d) (by omega), Nat.shiftLeft_eq, Nat.mod_eq_of_lt (by omega), Nat.mod_eq_of_lt (by omega)]
  have := Nat.two_pow_add_eq_or_of_lt (i := 8) (b := d) (by omega) c
  rw [Nat.mul_comm c (2 ^ 8)]
  omega
def mk_eqf (S : List Nat) (p w : Nat) : Nat → Nat → Bool
  | 0, _ => true
  | k + 1, i => if mk_ch S (p + i) = (mk_s w).getD i 0 then mk_eqf S p w k (i + 1) else false
theorem mk_eqf_iff (S : List Nat) (p w : Nat) : ∀ k i, mk_eqf S p w k i = true ↔ ∀ j, i ≤ j → j < i + k → mk_ch S (p + j) = (mk_s w).getD j 0 := by
  intro k
  induction k with
  | zero => intro i; exact ⟨fun _ j h1 h2 => by omega, fun _ => rfl⟩
  | succ k ih =>
    intro i
    rw [mk_eqf]
    by_cases h : mk_ch S (p + i) = (mk_s w).getD i 0
    · rw [if_pos h, ih]
      exact ⟨fun g j h1 h2 => by
        by_cases e : j = i
        · rw [e]; exact h
        · exact g j (by omega) (by omega), fun g j h1 h2 => g j (by omega) (by omega)⟩
    · rw [if_neg h]
      exact ⟨fun g => (by cases g), fun g => absurd (g i (by omega) (by omega)) h⟩
theorem mk_wd_eq (S : List Nat) (p e w : Nat) : mk_wd S p e = mk_s w ↔ (mk_s w).length = e - p ∧ mk_eqf S p w (mk_s w).length 0 = true := by
  rw [mk_eqf_iff]
  unfold mk_wd
  constructor
  · intro h
    have hl : (mk_s w).length = e - p := by rw [← h]; simp
    refine ⟨hl, fun j _ hj => ?_⟩
    rw [← h, List.getD_eq_getElem?_getD, List.getElem?_map, List.getElem?_range (by omega)]
    rfl
  · rintro ⟨hl, h⟩
    apply List.ext_getElem
    · simp [hl]
    · intro j h1 h2
      rw [List.getElem_map, List.getElem_range, h j (by omega) (by omega), List.getD_eq_getElem?_getD, List.getElem?_eq_getElem h2]
      rfl
theorem mk_s_le {w : Nat} (hw : w < 13) : (mk_s w).length ≤ 5 ∧ ∀ c ∈ mk_s w, 1 ≤ c ∧ c ≤ 122 := by
  have : ∀ w, w < 13 → (mk_s w).length ≤ 5 ∧ ∀ c ∈ mk_s w, 1 ≤ c ∧ c ≤ 122 := by decide
  exact this w hw
theorem mi_wl0 (t : mw_T) (r i : Nat) (v : Int32) (q j : Nat) : (mw_wi t r i v).2.1 q j = t.2.1 q j := rfl
section
variable {N R o : Nat}
theorem mk_spl {S : List Nat} {t : mw_T} (h : mk_TX S t) (w : Nat) (hw : w < 13) (p : Nat) (hp : p ≤ 160) : ∀ (k F i : Nat), i + k = (mk_s w).length → k < F → mf_Text_spells_l15 N R w F (nI p) (nI i) t = some (.inl (mj_b2 (mk_eqf S p w k i)), t) := by
  obtain ⟨hl5, hc5⟩ := mk_s_le hw
  intro k
  induction k with
  | zero =>
    intro F i hi hF
    obtain ⟨F, rfl⟩ : ∃ k, F = k + 1 := ⟨F - 1, by omega⟩
    rw [me_Text_spells_l15, mf_Text_spells_l15B, show (mj_sc.getD w []).length = (mk_s w).length from rfl, if_neg (mi_ltF (by omega) (by omega)), mk_eqf]
    rfl
  | succ k ih =>
    intro F i hi hF
    obtain ⟨F, rfl⟩ : ∃ k, F = k + 1 := ⟨F - 1, by omega⟩
    rw [me_Text_spells_l15, mf_Text_spells_l15B, show (mj_sc.getD w []).length = (mk_s w).length from rfl, if_pos (mi_ltT (by omega) (by omega)), mi_add, mk_at h (p + i) (by omega), mi_b, if_pos (mi_inT (by omega) (by omega)), mi_tn (by omega), show (mj_sc.getD w []).getD i 0 = (mk_s w).getD i 0 from rfl, mk_eqf]
    have hlt : (mk_s w).getD i 0 ≤ 122 := by
      rw [List.getD_eq_getElem?_getD, List.getElem?_eq_getElem (by omega)]
      exact (hc5 _ (List.getElem_mem (by omega))).2
    have := (mk_ch_lt h.1 (p + i)).1
    by_cases e : mk_ch S (p + i) = (mk_s w).getD i 0
    · rw [if_pos (by rw [e]), if_pos e, mi_l1, mi_add]
      exact ih F (i + 1) (by omega) (by omega)
    · rw [if_neg (mi_neT (by omega) (by omega) e), if_neg e]
      rfl
theorem mk_spells (hN : 200 ≤ N) {S : List Nat} {t : mw_T} (h : mk_TX S t) (w : Nat) (hw : w < 13) (p e : Nat) (hpe : p ≤ e) (he : e ≤ 160) : mf_Text_spells N R w (nI p) (nI e) t = some (.inl (mj_b2 (decide (mk_wd S p e = mk_s w))), t) := by
  obtain ⟨hl5, _⟩ := mk_s_le hw
  rw [mf_Text_spells, show (mj_sc.getD w []).length = (mk_s w).length from rfl, mi_sub hpe]
  by_cases hl : (mk_s w).length = e - p
  · rw [if_pos (by rw [hl]), show (0 : Int32) = nI 0 from rfl, mk_spl h w hw p (by omega) (mk_s w).length N 0 (by omega) (by omega)]
    congr 4
    rw [Bool.eq_iff_iff, decide_eq_true_iff, mk_wd_eq]
    exact ⟨fun g => ⟨hl, g⟩, fun g => g.2⟩
  · rw [if_neg (mi_neT (by omega) (by omega) hl), decide_eq_false (fun g => hl ((mk_wd_eq S p e w).mp g).1)]
    rfl
theorem mk_wordKind (hN : 200 ≤ N) {S : List Nat} {t : mw_T} (h : mk_TX S t) (p e : Nat) (hpe : p ≤ e) (he : e ≤ 160) : mf_Tokens_wordKind N R (nI p) (nI e) t = some (.inl (nI (mk_wk (mk_wd S p e))), t) := by
  have sp : ∀ w, w < 13 → mf_Text_spells N R w (nI p) (nI e) t = some (.inl (mj_b2 (decide (mk_wd S p e = mk_s w))), t) := fun w hw => mk_spells hN h w hw p e hpe he
  rw [mf_Tokens_wordKind]
  unfold mk_wk
  by_cases h0 : mk_wd S p e = mk_s 0
  · rw [sp 0 (by omega), mi_b, decide_eq_true h0, if_neg (show ¬ mj_b2 true = 0 by decide), if_pos h0]
    rfl
  rw [sp 0 (by omega), mi_b, decide_eq_false h0, if_pos (show mj_b2 false = 0 from rfl), if_neg h0]
  by_cases h1 : mk_wd S p e = mk_s 1
  · rw [sp 1 (by omega), mi_b, decide_eq_true h1, if_neg (show ¬ mj_b2 true = 0 by decide), if_pos h1]
    rfl
  rw [sp 1 (by omega), mi_b, decide_eq_false h1, if_pos (show mj_b2 false = 0 from rfl), if_neg h1]
  by_cases h2 : mk_wd S p e = mk_s 2
  · rw [sp 2 (by omega), mi_b, decide_eq_true h2, if_neg (show ¬ mj_b2 true = 0 by decide), if_pos h2]
    rfl
  rw [sp 2 (by omega), mi_b, decide_eq_false h2, if_pos (show mj_b2 false = 0 from rfl), if_neg h2]
  by_cases h3 : mk_wd S p e = mk_s 3
  · rw [sp 3 (by omega), mi_b, decide_eq_true h3, if_neg (show ¬ mj_b2 true = 0 by decide), if_pos h3]
    rfl
  rw [sp 3 (by omega), mi_b, decide_eq_false h3, if_pos (show mj_b2 false = 0 from rfl), if_neg h3]
  by_cases h4 : mk_wd S p e = mk_s 4
  · rw [sp 4 (by omega), mi_b, decide_eq_true h4, if_neg (show ¬ mj_b2 true = 0 by decide), if_pos h4]
    rfl
  rw [sp 4 (by omega), mi_b, decide_eq_false h4, if_pos (show mj_b2 false = 0 from rfl), if_neg h4]
  by_cases h5 : mk_wd S p e = mk_s 5
  · rw [sp 5 (by omega), mi_b, decide_eq_true h5, if_neg (show ¬ mj_b2 true = 0 by decide), if_pos h5]
    rfl
  rw [sp 5 (by omega), mi_b, decide_eq_false h5, if_pos (show mj_b2 false = 0 from rfl), if_neg h5]
  by_cases h6 : mk_wd S p e = mk_s 6
  · rw [sp 6 (by omega), mi_b, decide_eq_true h6, if_neg (show ¬ mj_b2 true = 0 by decide), if_pos h6]
    rfl
  rw [sp 6 (by omega), mi_b, decide_eq_false h6, if_pos (show mj_b2 false = 0 from rfl), if_neg h6]
  by_cases h7 : mk_wd S p e = mk_s 7
  · rw [sp 7 (by omega), mi_b, decide_eq_true h7, if_neg (show ¬ mj_b2 true = 0 by decide), if_pos h7]
    rfl
  rw [sp 7 (by omega), mi_b, decide_eq_false h7, if_pos (show mj_b2 false = 0 from rfl), if_neg h7]
  by_cases h8 : mk_wd S p e = mk_s 8
  · rw [sp 8 (by omega), mi_b, decide_eq_true h8, if_neg (show ¬ mj_b2 true = 0 by decide), if_pos h8]
    rfl
  rw [sp 8 (by omega), mi_b, decide_eq_false h8, if_pos (show mj_b2 false = 0 from rfl), if_neg h8]
  by_cases h9 : mk_wd S p e = mk_s 9
  · rw [sp 9 (by omega), mi_b, decide_eq_true h9, if_neg (show ¬ mj_b2 true = 0 by decide), if_pos h9]
    rfl
  rw [sp 9 (by omega), mi_b, decide_eq_false h9, if_pos (show mj_b2 false = 0 from rfl), if_neg h9]
  by_cases h10 : mk_wd S p e = mk_s 10
  · rw [sp 10 (by omega), mi_b, decide_eq_true h10, if_neg (show ¬ mj_b2 true = 0 by decide), if_pos h10]
    rfl
  rw [sp 10 (by omega), mi_b, decide_eq_false h10, if_pos (show mj_b2 false = 0 from rfl), if_neg h10]
  by_cases h11 : mk_wd S p e = mk_s 11
  · rw [sp 11 (by omega), mi_b, decide_eq_true h11, if_neg (show ¬ mj_b2 true = 0 by decide), if_pos h11]
    rfl
  rw [sp 11 (by omega), mi_b, decide_eq_false h11, if_pos (show mj_b2 false = 0 from rfl), if_neg h11]
  by_cases h12 : mk_wd S p e = mk_s 12
  · rw [sp 12 (by omega), mi_b, decide_eq_true h12, if_neg (show ¬ mj_b2 true = 0 by decide), if_pos h12]
    rfl
  rw [sp 12 (by omega), mi_b, decide_eq_false h12, if_pos (show mj_b2 false = 0 from rfl), if_neg h12]
  rfl
/-- a token is put into row k -/
def mk_pt (o : Nat) (t T : mw_T) (k : Nat) (z : Nat × Nat) : Prop := (∀ q i, q ≠ 23 + o ∨ i ≠ k → T.1 q i = t.1 q i) ∧ T.1 (23 + o) k = nI z.1 ∧ (∀ q i, q ≠ 24 + o ∨ i ≠ k → T.2.1 q i = t.2.1 q i) ∧ (z.1 = 1 → T.2.1 (24 + o) k = nL z.2)
theorem mk_pt_i (t : mw_T) (k a : Nat) (ha : a ≠ 1) : mk_pt o t (mw_wi t (23 + o) k (nI a)) k (a, 0) := by
  refine ⟨fun q i h => ?_, ?_, fun _ _ _ => rfl, fun h => absurd h ha⟩
  · rw [mi_wi]
    by_cases e : q = 23 + o
    · rw [if_pos e, if_neg (by omega)]
    · rw [if_neg e]
  · rw [mi_wi, if_pos rfl, if_pos rfl]
theorem mk_word (hN : 200 ≤ N) {S : List Nat} {t : mw_T} (h : mk_TX S t) (p : Nat) {k : Nat} (hk : k < 160) (hc : t.1 (22 + o) 2 = nI k) : ∀ (m F e : Nat), p ≤ e → (∀ j, e ≤ j → j < e + m → mk_isL (mk_ch S j) = true) → mk_isL (mk_ch S (e + m)) = false → e + m ≤ S.length → m < F → mf_Tokens_readWord_l2 N R o F (nI p) (nI e) t = some (.inl (nI (e + m)), mw_wi t (23 + o) k (nI (mk_wk (mk_wd S p (e + m))))) := by
  have hS := h.1.1
  have fin : ∀ e, p ≤ e → e ≤ S.length → mf_Tokens_readWord_b27 N R o (nI p) (nI e) t = some (.inl (nI e), mw_wi t (23 + o) k (nI (mk_wk (mk_wd S p e)))) := by
    intro e hpe he
    rw [mf_Tokens_readWord_b27, mk_wordKind hN h p e hpe (by omega), mi_bs, hc, if_pos (mi_inT (by omega) hk), mi_tn (by omega)]
  intro m
  induction m with
  | zero =>
    intro F e hpe _ hout he hF
    obtain ⟨F, rfl⟩ : ∃ k, F = k + 1 := ⟨F - 1, by omega⟩
    simp only [Nat.add_zero] at hout he ⊢
    rw [me_Tokens_readWord_l2, mf_Tokens_readWord_l2B, mf_Text_length, mi_b, h.2.1]
    by_cases hl : e < S.length
    · rw [if_pos (mi_ltT (by omega) hl), mk_at h e (by omega), mi_b, (mk_isLetter _ (mk_ch_lt h.1 e).1 t).1, mi_bs, hout, if_pos (show mj_b2 false = 0 from rfl), fin e hpe he]
    · rw [if_neg (mi_ltF (by omega) (by omega)), fin e hpe he]
  | succ m ih =>
    intro F e hpe hin hout he hF
    obtain ⟨F, rfl⟩ : ∃ k, F = k + 1 := ⟨F - 1, by omega⟩
    rw [me_Tokens_readWord_l2, mf_Tokens_readWord_l2B, mf_Text_length, mi_b, h.2.1, if_pos (mi_ltT (by omega) (by omega)), mk_at h e (by omega), mi_b, (mk_isLetter _ (mk_ch_lt h.1 e).1 t).1, mi_bs, hin e (Nat.le_refl _) (by omega), if_neg (show ¬ mj_b2 true = 0 by decide), mi_l1, mi_add]
    rw [show e + (m + 1) = e + 1 + m by omega] at hout he ⊢
    exact ih F (e + 1) (by omega) (fun j h1 h2 => hin j (by omega) (by omega)) hout he (by omega)
theorem mk_dig {v c : Nat} (hv : v ≤ 4294967296) (h1 : 48 ≤ c) (h2 : c ≤ 57) : ((nL v * (10 : Int64)) + (nI c).toInt64) - (48 : Int64) = nL (v * 10 + (c - 48)) := by
  rw [mi_IL (by omega), show (10 : Int64) = nL 10 from rfl, mi_mulL, mi_addL, show (48 : Int64) = nL 48 from rfl, mi_subL (by omega)]
  congr 1; omega
theorem mk_isD_le {c : Nat} (h : mk_isD c = true) : 48 ≤ c ∧ c ≤ 57 := by
  unfold mk_isD at h
  rw [Bool.and_eq_true, Nat.ble_eq, Nat.ble_eq] at h
  exact h
theorem mk_numC (hN : 200 ≤ N) {S : List Nat} {t : mw_T} (h : mk_TX S t) {k : Nat} (hk : k < 160) (hc : t.1 (22 + o) 2 = nI k) : ∀ (m F e v : Nat), (∀ j, e ≤ j → j < e + m → mk_isD (mk_ch S j) = true) → mk_isD (mk_ch S (e + m)) = false → e + m ≤ S.length → m < F → v ≤ 4294967296 → ∃ T, mf_Tokens_readNumber_l5 N R o F (nL v) (nI e) t = some (.inl (nI (e + m)), T) ∧ mk_pt o t T k (if 4294967295 < mk_nv S m e v then (2, 0) else (1, mk_nv S m e v)) := by
  have hS := h.1.1
  have fin : ∀ e v, v ≤ 4294967296 → ∃ T, mf_Tokens_readNumber_b56 N R o (nL v) (nI e) t = some (.inl (nI e), T) ∧ mk_pt o t T k (if 4294967295 < v then (2, 0) else (1, v)) := by
    intro e v hv
    have hin : mj_in (nI k) 160 = true := mi_inT (by omega) hk
    rw [mf_Tokens_readNumber_b56, hc]
    have key : ∀ (a : Nat) (b : Nat), (a = 1 → b = v) → mk_pt o t (mw_wl (mw_wi t (23 + o) k (nI a)) (24 + o) k (nL v)) k (a, b) := by
      intro a b hab
      refine ⟨fun q i hq => ?_, ?_, fun q i hq => ?_, fun ha => ?_⟩
      · rw [mi_wl1, mi_wi]
        by_cases e : q = 23 + o
        · rw [if_pos e, if_neg (by omega)]
        · rw [if_neg e]
      · rw [mi_wl1, mi_wi, if_pos rfl, if_pos rfl]
      · rw [mi_wl]
        by_cases e : q = 24 + o
        · rw [if_pos e, if_neg (by omega)]; rfl
        · rw [if_neg e]; rfl
      · rw [mi_wl, if_pos rfl, if_pos rfl, hab ha]
    by_cases hb : 4294967295 < v
    · refine ⟨mw_wl (mw_wi t (23 + o) k (nI 2)) (24 + o) k (nL v), ?_, by rw [if_pos hb]; exact key 2 0 (fun h => by omega)⟩
      · rw [if_pos (show (4294967295 : Int64) < nL v from mi_ltLT (a := 4294967295) (by omega) hb), mf_Tokens_readNumber_b77, if_pos hin, hc, if_pos hin, mi_tn (by omega)]; rfl
    · refine ⟨mw_wl (mw_wi t (23 + o) k (nI 1)) (24 + o) k (nL v), ?_, by rw [if_neg hb]; exact key 1 v (fun _ => rfl)⟩
      · rw [if_neg (show ¬ (4294967295 : Int64) < nL v from mi_ltLF (a := 4294967295) (by omega) (by omega)), mf_Tokens_readNumber_b77, if_pos hin, hc, if_pos hin, mi_tn (by omega)]; rfl
  intro m
  induction m with
  | zero =>
    intro F e v _ hout he hF hv
    obtain ⟨F, rfl⟩ : ∃ k, F = k + 1 := ⟨F - 1, by omega⟩
    simp only [Nat.add_zero] at hout he ⊢
    rw [me_Tokens_readNumber_l5, mf_Tokens_readNumber_l5B, mf_Text_length, mi_b, h.2.1, mk_nv]
    by_cases hl : e < S.length
    · rw [if_pos (mi_ltT (by omega) hl), mk_at h e (by omega), mi_b, (mk_isDigit _ (mk_ch_lt h.1 e).1 t).1, mi_bs, hout, if_pos (show mj_b2 false = 0 from rfl)]
      exact fin e v hv
    · rw [if_neg (mi_ltF (by omega) (by omega))]
      exact fin e v hv
  | succ m ih =>
    intro F e v hin hout he hF hv
    obtain ⟨F, rfl⟩ : ∃ k, F = k + 1 := ⟨F - 1, by omega⟩
    have hd := hin e (Nat.le_refl _) (by omega)
    obtain ⟨d1, d2⟩ := mk_isD_le hd
    rw [me_Tokens_readNumber_l5, mf_Tokens_readNumber_l5B, mf_Text_length, mi_b, h.2.1, if_pos (mi_ltT (by omega) (by omega)), mk_at h e (by omega), mi_b, (mk_isDigit _ (mk_ch_lt h.1 e).1 t).1, mi_bs, hd, if_neg (show ¬ mj_b2 true = 0 by decide), mk_at h e (by omega), mi_b, mi_l1, mi_add, mk_dig hv d1 d2, mk_nv]
    have hmin : (if (4294967296 : Int64) < nL (v * 10 + (mk_ch S e - 48)) then (4294967296 : Int64) else nL (v * 10 + (mk_ch S e - 48))) = nL (min (v * 10 + (mk_ch S e - 48)) 4294967296) := by
      by_cases g : 4294967296 < v * 10 + (mk_ch S e - 48)
      · rw [if_pos (show (4294967296 : Int64) < nL _ from mi_ltLT (a := 4294967296) (by omega) g), Nat.min_eq_right (by omega)]; rfl
      · rw [if_neg (show ¬ (4294967296 : Int64) < nL _ from mi_ltLF (a := 4294967296) (by omega) (by omega)), Nat.min_eq_left (by omega)]
    rw [hmin]
    rw [show e + (m + 1) = e + 1 + m by omega] at hout he ⊢
    exact ih F (e + 1) _ (fun j h1 h2 => hin j (by omega) (by omega)) hout he (by omega) (Nat.min_le_right _ _)
theorem mk_signC {S : List Nat} {t : mw_T} (h : mk_TX S t) (p : Nat) (hp : p < S.length) (h1 : mk_isL (mk_ch S p) = false) (h2 : mk_isD (mk_ch S p) = false) {k : Nat} (hk : k < 160) (hc : t.1 (22 + o) 2 = nI k) : ∃ T, mf_Tokens_readSign N R o (nI p) t = some (.inl (nI (mk_tok S p).2), T) ∧ mk_pt o t T k (mk_tok S p).1 := by
  have hS := h.1.1
  obtain ⟨c1, c2⟩ := mk_ch_lt h.1 p
  obtain ⟨d1, _⟩ := mk_ch_lt h.1 (p + 1)
  have c3 := c2 hp
  have hin : mj_in (nI k) 160 = true := mi_inT (by omega) hk
  have key : ∀ c : Nat, c < 100000 → (nI (mk_ch S p * 256 + mk_ch S (p + 1)) = nI c ↔ mk_ch S p * 256 + mk_ch S (p + 1) = c) := fun c hc => by rw [mi_eq (by omega) (by omega)]
  have yes : mk_t2 (mk_ch S p) (mk_ch S (p + 1)) = true → ∃ T, mf_Tokens_readSign_b52 N R o (nI p) (nI (mk_ch S p * 256 + mk_ch S (p + 1))) t = some (.inl (nI (mk_tok S p).2), T) ∧ mk_pt o t T k (mk_tok S p).1 := by
    intro ht
    refine ⟨mw_wi t (23 + o) k (nI (mk_ch S p * 256 + mk_ch S (p + 1))), ?_, ?_⟩
    · rw [mf_Tokens_readSign_b52, mf_Tokens_readSign_b57, if_neg (by decide), mf_Tokens_readSign_b81, hc, if_pos hin, if_neg (by decide), mi_tn (by omega), show (2 : Int32) = nI 2 from rfl, mi_add]
      unfold mk_tok
      rw [h1, h2, if_neg (by decide), if_neg (by decide), if_pos ht]
    · unfold mk_tok
      rw [h1, h2, if_neg (by decide), if_neg (by decide), if_pos ht]
      exact mk_pt_i t k _ (by omega)
  have e1 : (nI (mk_ch S p * 256 + mk_ch S (p + 1)) = (8509 : Int32)) ↔ _ := key 8509 (by omega)
  have e2 : (nI (mk_ch S p * 256 + mk_ch S (p + 1)) = (15421 : Int32)) ↔ _ := key 15421 (by omega)
  have e3 : (nI (mk_ch S p * 256 + mk_ch S (p + 1)) = (15933 : Int32)) ↔ _ := key 15933 (by omega)
  have e4 : (nI (mk_ch S p * 256 + mk_ch S (p + 1)) = (15420 : Int32)) ↔ _ := key 15420 (by omega)
  have e5 : (nI (mk_ch S p * 256 + mk_ch S (p + 1)) = (15934 : Int32)) ↔ _ := key 15934 (by omega)
  rw [mf_Tokens_readSign, mk_at h p (by omega), mi_b, show (1 : Int32) = nI 1 from rfl, mi_add, mk_at h (p + 1) (by omega), mi_b, mi_shl8I (by omega) (by omega)]
  by_cases g1 : mk_ch S p * 256 + mk_ch S (p + 1) = 8509
  · rw [if_pos (e1.mpr g1)]
    exact yes (by unfold mk_t2; rw [g1]; rfl)
  rw [if_neg (fun x => g1 (e1.mp x))]
  by_cases g2 : mk_ch S p * 256 + mk_ch S (p + 1) = 15421
  · rw [if_pos (e2.mpr g2)]
    exact yes (by unfold mk_t2; rw [g2]; rfl)
  rw [if_neg (fun x => g2 (e2.mp x))]
  by_cases g3 : mk_ch S p * 256 + mk_ch S (p + 1) = 15933
  · rw [if_pos (e3.mpr g3)]
    exact yes (by unfold mk_t2; rw [g3]; rfl)
  rw [if_neg (fun x => g3 (e3.mp x))]
  by_cases g4 : mk_ch S p * 256 + mk_ch S (p + 1) = 15420
  · rw [if_pos (e4.mpr g4)]
    exact yes (by unfold mk_t2; rw [g4]; rfl)
  rw [if_neg (fun x => g4 (e4.mp x))]
  by_cases g5 : mk_ch S p * 256 + mk_ch S (p + 1) = 15934
  · rw [if_pos (e5.mpr g5)]
    exact yes (by unfold mk_t2; rw [g5]; rfl)
  rw [if_neg (fun x => g5 (e5.mp x))]
  have hno : ¬ mk_t2 (mk_ch S p) (mk_ch S (p + 1)) = true := by
    unfold mk_t2
    simp only [Bool.or_eq_true, Nat.beq_eq]
    omega
  refine ⟨mw_wi t (23 + o) k (nI (mk_ch S p)), ?_, ?_⟩
  · rw [mf_Tokens_readSign_b57, if_pos rfl, mk_at h p (by omega), mi_b, mf_Tokens_readSign_b81, hc, if_pos hin, if_pos rfl, mi_tn (by omega), show (1 : Int32) = nI 1 from rfl, mi_add]
    unfold mk_tok
    rw [h1, h2, if_neg (by decide), if_neg (by decide), if_neg hno]
  · unfold mk_tok
    rw [h1, h2, if_neg (by decide), if_neg (by decide), if_neg hno]
    exact mk_pt_i t k _ (by omega)
theorem mk_rtok (hN : 200 ≤ N) {S : List Nat} {t : mw_T} (h : mk_TX S t) (p : Nat) (hp : p < S.length) {k : Nat} (hk : k < 160) (hc : t.1 (22 + o) 2 = nI k) : ∃ T, mf_Tokens_readToken N R o (nI p) t = some (.inl (nI (mk_tok S p).2), T) ∧ mk_pt o t T k (mk_tok S p).1 := by
  have hS := h.1.1
  rw [mf_Tokens_readToken, mk_at h p (by omega), mi_b, (mk_isLetter _ (mk_ch_lt h.1 p).1 t).1, mi_bs]
  cases hL : mk_isL (mk_ch S p) with
  | true =>
    rw [if_neg (show ¬ mj_b2 true = 0 by decide), mf_Tokens_readWord]
    obtain ⟨o1, o2⟩ := mk_sc_out mk_isL (by decide) S S.length p (by omega) (by omega)
    have o3 := mk_sc_le mk_isL S S.length p
    have := mk_word (N := N) (R := R) (o := o) hN h p hk hc (mk_sc mk_isL S S.length p - p) N p (Nat.le_refl _) (fun j h1 h2 => mk_sc_in mk_isL S S.length p j h1 (by omega)) (by rw [show p + (mk_sc mk_isL S S.length p - p) = mk_sc mk_isL S S.length p by omega]; exact o1) (by omega) (by omega)
    rw [show p + (mk_sc mk_isL S S.length p - p) = mk_sc mk_isL S S.length p by omega] at this
    rw [this, mi_b]
    unfold mk_tok
    rw [if_pos hL]
    have := mk_wk_le (mk_wd S p (mk_sc mk_isL S S.length p))
    exact ⟨_, rfl, mk_pt_i t k _ (by omega)⟩
  | false =>
    rw [if_pos (show mj_b2 false = 0 from rfl), mk_at h p (by omega), mi_b, (mk_isDigit _ (mk_ch_lt h.1 p).1 t).1, mi_bs]
    cases hD : mk_isD (mk_ch S p) with
    | true =>
      rw [if_neg (show ¬ mj_b2 true = 0 by decide), mf_Tokens_readNumber]
      obtain ⟨o1, o2⟩ := mk_sc_out mk_isD (by decide) S S.length p (by omega) (by omega)
      have o3 := mk_sc_le mk_isD S S.length p
      obtain ⟨T, e1, e2⟩ := mk_numC (N := N) (R := R) (o := o) hN h hk hc (mk_sc mk_isD S S.length p - p) N p 0 (fun j h1 h2 => mk_sc_in mk_isD S S.length p j h1 (by omega)) (by rw [show p + (mk_sc mk_isD S S.length p - p) = mk_sc mk_isD S S.length p by omega]; exact o1) (by omega) (by omega) (by omega)
      rw [show p + (mk_sc mk_isD S S.length p - p) = mk_sc mk_isD S S.length p by omega] at e1
      rw [show (0 : Int64) = nL 0 from rfl, e1, mi_b]
      unfold mk_tok
      rw [if_neg (by rw [hL]; decide), if_pos hD]
      exact ⟨_, rfl, e2⟩
    | false =>
      rw [if_pos (show mj_b2 false = 0 from rfl)]
      obtain ⟨T, e1, e2⟩ := mk_signC (N := N) (R := R) (o := o) h p hp hL hD hk hc
      rw [e1, mi_b]
      exact ⟨_, rfl, e2⟩
theorem mk_readL (ho : o = 0 ∨ o = 21) (hN : 200 ≤ N) {S : List Nat} : ∀ (m F i e : Nat) (D : mk_L) (t : mw_T), mk_TX S t → i + m = S.length → e ≤ S.length → m < F → mk_TC o t D → D.length ≤ i → ∃ T, mf_Tokens_read_l9 N R o F (nI e) (nI i) t = some (.inl (), T) ∧ mk_TC o T (D ++ mk_lx S (max i e)) := by
  intro m
  induction m with
  | zero =>
    intro F i e D t h hi he hF hD hDi
    have hS := h.1.1
    obtain ⟨F, rfl⟩ : ∃ k, F = k + 1 := ⟨F - 1, by omega⟩
    rw [me_Tokens_read_l9, mf_Tokens_read_l9B, mf_Text_length, mi_b, h.2.1, if_neg (mi_ltF (by omega) (by omega)), mk_lx_end (by omega), List.append_nil]
    exact ⟨_, rfl, hD⟩
  | succ m ih =>
    intro F i e D t h hi he hF hD hDi
    have hS := h.1.1
    obtain ⟨F, rfl⟩ : ∃ k, F = k + 1 := ⟨F - 1, by omega⟩
    rw [me_Tokens_read_l9, mf_Tokens_read_l9B, mf_Text_length, mi_b, h.2.1, if_pos (mi_ltT (by omega) (by omega))]
    by_cases hie : i < e
    · rw [if_pos (mi_ltT (by omega) hie), mf_Tokens_read_b49, mi_l1, mi_add]
      have := ih F (i + 1) e D t h (by omega) he (by omega) hD (by omega)
      rwa [show max (i + 1) e = max i e by omega] at this
    · rw [if_neg (mi_ltF (by omega) (by omega)), mk_at h i (by omega), mi_b, show max i e = i by omega]
      obtain ⟨c1, c2⟩ := mk_ch_lt h.1 i
      by_cases h32 : mk_ch S i = 32
      · rw [if_pos (by rw [h32]; rfl), mf_Tokens_read_b49, mi_l1, mi_add, mk_lx_sp (by omega) h32]
        have := ih F (i + 1) e D t h (by omega) he (by omega) hD (by omega)
        rwa [show max (i + 1) e = i + 1 by omega] at this
      · rw [if_neg (show ¬ nI (mk_ch S i) = (32 : Int32) from mi_neT (b := 32) (by omega) (by omega) h32)]
        obtain ⟨T1, a1, a2⟩ := mk_rtok (N := N) (R := R) (o := o) hN h i (by omega) (k := D.length) (by omega) hD.2.1
        have tl := mk_tok_lt (S := S) (p := i) (by omega)
        have e22 : T1.1 (22 + o) 2 = nI D.length := by rw [a2.1 _ _ (Or.inl (by omega))]; exact hD.2.1
        rw [a1, mi_b, mf_Tokens_read_b49, mi_l1, mi_add, mk_lx_tok (by omega) h32, e22, show (1 : Int32) = nI 1 from rfl, mi_add]
        have hT : mk_TX S (mw_wi T1 (22 + o) 2 (nI (D.length + 1))) := by
          refine ⟨h.1, ?_, ?_, fun j c hj => ?_⟩
          · rw [mi_wi, if_neg (by omega), a2.1 _ _ (Or.inl (by omega))]; exact h.2.1
          · rw [mi_wi, if_neg (by omega), a2.1 _ _ (Or.inl (by omega))]; exact h.2.2.1
          · rw [mi_wi, if_neg (by omega), a2.1 _ _ (Or.inl (by omega)), mi_wi, if_neg (by omega), a2.1 _ _ (Or.inl (by omega))]; exact h.2.2.2 j c hj
        have hC : mk_TC o (mw_wi T1 (22 + o) 2 (nI (D.length + 1))) (D ++ [(mk_tok S i).1]) := by
          refine ⟨by rw [List.length_append, List.length_singleton]; omega, ?_, fun j z hz => ?_⟩
          · rw [mi_wi, if_pos rfl, if_pos rfl, List.length_append, List.length_singleton]
          · rw [mi_wi, if_neg (by omega), mi_wl0]
            by_cases hj : j < D.length
            · rw [List.getElem?_append_left hj] at hz
              rw [a2.1 _ _ (Or.inr (by omega)), a2.2.2.1 _ _ (Or.inr (by omega))]
              exact hD.2.2 j z hz
            · rw [List.getElem?_append_right (by omega)] at hz
              have hlt := (List.getElem?_eq_some_iff.mp hz).1
              simp only [List.length_singleton] at hlt
              have hj0 : j = D.length := by omega
              rw [show j - D.length = 0 by omega] at hz
              simp only [List.getElem?_cons_zero, Option.some.injEq] at hz
              rw [hj0, ← hz]
              exact ⟨a2.2.1, a2.2.2.2⟩
        have := ih F (i + 1) (mk_tok S i).2 (D ++ [(mk_tok S i).1]) _ hT (by omega) tl.2 (by omega) hC (by rw [List.length_append, List.length_singleton]; omega)
        rwa [show max (i + 1) (mk_tok S i).2 = (mk_tok S i).2 by omega, List.append_assoc] at this
theorem mk_read (ho : o = 0 ∨ o = 21) (hN : 200 ≤ N) {S : List Nat} {t : mw_T} (h : mk_TX S t) : ∃ T, mf_Tokens_read N R o t = some (.inl (), T) ∧ mk_TC o T (mk_lx S 0) := by
  have hS := h.1.1
  have := mk_readL (N := N) (R := R) (o := o) ho hN S.length N 0 0 [] (mw_wi t (22 + o) 2 (0 : Int32)) ⟨h.1, by rw [mi_wi, if_neg (by omega)]; exact h.2.1, by rw [mi_wi, if_neg (by omega)]; exact h.2.2.1, fun j c hj => by rw [mi_wi, if_neg (by omega), mi_wi, if_neg (by omega)]; exact h.2.2.2 j c hj⟩ (by omega) (by omega) (by omega) ⟨by decide, by rw [mi_wi, if_pos rfl, if_pos rfl]; rfl, fun k z hz => by simp at hz⟩ (by decide)
  exact this
theorem mk_parse (ho : o = 0 ∨ o = 21) (hN : 200 ≤ N) (hR : 54 ≤ R) {S : List Nat} {t : mw_T} (h : mk_TX S t) : mk_rs (mf_Parser_parse N R o t) (mk_all R (mk_lx S 0)) (fun (y : mt_T × mt_T) (_ : Unit) T => mt_RC o T 0 y.1 ∧ T.1 (8 + o) 7 = nI (mt_sz y.1)) := by
  obtain ⟨T, e1, e2⟩ := mk_read (N := N) (R := R) (o := o) ho hN h
  rw [mf_Parser_parse, e1, mi_b]
  exact mk_parseC (mk_lx_ok h.1 S.length 0 (by omega)).1 hN hR e2
end
