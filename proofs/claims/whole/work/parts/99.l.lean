/-! THE REFERENCE takes a token -/
/-- the text in the reference alone -/
def mk_TM (S : List Nat) (t : mw_T) : Prop := mk_SX S ∧ t.1 49 1 = nI S.length ∧ ∀ (i c : Nat), S[i]? = some c → t.1 50 i = nI c
theorem mk_TM_of {S : List Nat} {t : mw_T} (h : mk_TX S t) : mk_TM S t := ⟨h.1, h.2.2.1, fun i c hc => (h.2.2.2 i c hc).2⟩
theorem mk_characterM {N R : Nat} {S : List Nat} {t : mw_T} (h : mk_TM S t) (p : Nat) (hp : p < 1000) : mf_Model_character N R (nI p) t = some (.inl (nI (mk_ch S p)), t) := by
  obtain ⟨h1, h3, h4⟩ := h
  have := h1.1
  rw [mf_Model_character, h3]
  by_cases hl : p < S.length
  · rw [if_pos (mi_ltT (by omega) hl), if_pos (mi_inT (by omega) (by omega)), mi_tn (by omega), (h4 p _ (List.getElem?_eq_getElem hl)), mk_ch, List.getD_eq_getElem?_getD, List.getElem?_eq_getElem hl]
    rfl
  · rw [if_neg (mi_ltF (by omega) (by omega)), mk_ch_0 (by omega)]
    rfl
def mn_pk : List Nat → Nat
  | [] => 0
  | c :: W => c + 256 * mn_pk W
theorem mn_pk_lt : ∀ W : List Nat, (∀ c ∈ W, c < 256) → mn_pk W < 256 ^ W.length
  | [], _ => by decide
  | c :: W, h => by
    have h1 := mn_pk_lt W (fun d hd => h d (List.mem_cons_of_mem _ hd))
    have h2 := h c (List.mem_cons_self ..)
    rw [mn_pk, List.length_cons, Nat.pow_succ]; omega
theorem mn_pk_ap : ∀ (W : List Nat) (c : Nat), mn_pk (W ++ [c]) = mn_pk W + c * 256 ^ W.length
  | [], c => by simp [mn_pk]
  | d :: W, c => by
    rw [List.cons_append, mn_pk, mn_pk_ap W c, mn_pk, List.length_cons, Nat.pow_succ, Nat.mul_add, ← Nat.mul_assoc c, Nat.mul_comm 256 (c * 256 ^ W.length)]
    omega
theorem mn_pk_inj : ∀ W V : List Nat, (∀ c ∈ W, 1 ≤ c ∧ c < 256) → (∀ c ∈ V, 1 ≤ c ∧ c < 256) → mn_pk W = mn_pk V → W = V
  | [], [], _, _, _ => rfl
  | [], d :: V, _, h, e => by
    have := h d (List.mem_cons_self ..)
    rw [mn_pk, mn_pk] at e; omega
  | c :: W, [], h, _, e => by
    have := h c (List.mem_cons_self ..)
    rw [mn_pk, mn_pk] at e; omega
  | c :: W, d :: V, h, g, e => by
    have h1 := h c (List.mem_cons_self ..)
    have g1 := g d (List.mem_cons_self ..)
    rw [mn_pk, mn_pk] at e
    rw [show c = d by omega, mn_pk_inj W V (fun x hx => h x (List.mem_cons_of_mem _ hx)) (fun x hx => g x (List.mem_cons_of_mem _ hx)) (by omega)]
/-- the 13 words -/
def mn_w (j : Nat) : Nat := mn_pk (mk_s j)
def mn_c (k : Nat) : Nat := if k = 0 then 0 else if k = 1 then 2 else if k ≤ 15 then 1 else 3
def mn_v (k v : Nat) : Nat := if k = 0 then 0 else if k = 1 then v else if k ≤ 15 then mn_w (k - 3) else if k = 8509 then 15649 else if k = 15421 then 15676 else if k = 15933 then 15678 else k
/-- what kinds there are -/
def mn_ad (k : Nat) : Prop := k ≤ 126 ∨ k = 8509 ∨ k = 15421 ∨ k = 15933 ∨ k = 15420 ∨ k = 15934
def mn_cd (T : mw_T) (k v : Nat) : Prop := mn_ad k ∧ v < 4294967296 ∧ T.1 49 4 = nI (mn_c k) ∧ (k ≠ 2 → T.2.1 49 6 = nL (mn_v k v)) ∧ (k = 2 → ∀ j, j < 13 → T.2.1 49 6 ≠ nL (mn_w j))
/-- what take leaves alone -/
def mn_fr (t T : mw_T) : Prop := (∀ q i, q ≠ 49 ∨ (i ≠ 3 ∧ i ≠ 4 ∧ i ≠ 7) → T.1 q i = t.1 q i) ∧ (∀ q i, q ≠ 49 ∨ i ≠ 6 → T.2.1 q i = t.2.1 q i) ∧ T.2.2 = t.2.2
theorem mn_fr_rf (t : mw_T) : mn_fr t t := ⟨fun _ _ _ => rfl, fun _ _ _ => rfl, rfl⟩
theorem mn_fr_tr {t u T : mw_T} (h : mn_fr t u) (g : mn_fr u T) : mn_fr t T := ⟨fun q i hq => (g.1 q i hq).trans (h.1 q i hq), fun q i hq => (g.2.1 q i hq).trans (h.2.1 q i hq), g.2.2.trans h.2.2⟩
theorem mn_fr_wi (t : mw_T) (i : Nat) (v : Int32) (h : i = 3 ∨ i = 4 ∨ i = 7) : mn_fr t (mw_wi t 49 i v) := by
  refine ⟨fun q j hq => ?_, fun _ _ _ => rfl, rfl⟩
  rw [mi_wi]
  by_cases e : q = 49
  · rw [if_pos e, if_neg (by omega)]
  · rw [if_neg e]
theorem mn_fr_wl (t : mw_T) (v : Int64) : mn_fr t (mw_wl t 49 6 v) := by
  refine ⟨fun _ _ _ => rfl, fun q j hq => ?_, rfl⟩
  rw [mi_wl]
  by_cases e : q = 49
  · rw [if_pos e, if_neg (by omega)]
  · rw [if_neg e]
theorem mn_TX {S : List Nat} {t T : mw_T} (h : mk_TM S t) (g : mn_fr t T) : mk_TM S T := by
  refine ⟨h.1, ?_, fun i c hc => ?_⟩
  · rw [g.1 _ _ (by omega)]; exact h.2.1
  · rw [g.1 _ _ (by omega)]; exact h.2.2 i c hc
theorem mi_orL {v c m : Nat} (hm : m < 8) (hv : v < 256 ^ m) (hc : c ≤ 127) : nL v ||| (nL c <<< (((8 : Int32) * nI m).toInt64 &&& 63)) = nL (v + c * 256 ^ m) := by
  have hs : ((((8 : Int32) * nI m).toInt64 &&& 63).toBitVec.smod 64) = BitVec.ofNat 64 (8 * m) := by
    have : ∀ m, m < 8 → ((((8 : Int32) * nI m).toInt64 &&& 63).toBitVec.smod 64) = BitVec.ofNat 64 (8 * m) := by decide
    exact this m hm
  have h256 : (256 : Nat) ^ m = 2 ^ (8 * m) := by rw [Nat.pow_mul]
  have hp : 2 ^ (8 * m) ≤ 2 ^ 56 := Nat.pow_le_pow_right (by omega) (by omega)
  rw [h256] at hv ⊢
  rw [← Int64.toBitVec_inj, Int64.toBitVec_or, Int64.toBitVec_shiftLeft, mi_nLb, mi_nLb, mi_nLb, hs]
  apply BitVec.eq_of_toNat_eq
  rw [BitVec.toNat_or, BitVec.shiftLeft_eq', BitVec.toNat_shiftLeft, BitVec.toNat_ofNat, BitVec.toNat_ofNat, BitVec.toNat_ofNat, BitVec.toNat_ofNat, Nat.mod_eq_of_lt (a := 8 * m) (by omega)]
  have hb : c * 2 ^ (8 * m) ≤ 127 * 2 ^ 56 := Nat.mul_le_mul hc hp
  rw [Nat.mod_eq_of_lt (a := v) (by omega), Nat.mod_eq_of_lt (a := c) (by omega), Nat.shiftLeft_eq, Nat.mod_eq_of_lt (by omega), Nat.mod_eq_of_lt (by omega)]
  have := Nat.two_pow_add_eq_or_of_lt (i := 8 * m) (b := v) (by omega) c
  rw [Nat.mul_comm c, Nat.or_comm, ← this]; omega
theorem mk_wd_len (S : List Nat) (p e : Nat) : (mk_wd S p e).length = e - p := by unfold mk_wd; simp
theorem mk_wd_suc (S : List Nat) {p e : Nat} (h : p ≤ e) : mk_wd S p (e + 1) = mk_wd S p e ++ [mk_ch S e] := by
  unfold mk_wd
  rw [show e + 1 - p = (e - p) + 1 by omega, List.range_succ, List.map_append, List.map_singleton, show p + (e - p) = e by omega]
theorem mk_wd_mem {S : List Nat} {p e : Nat} (h : ∀ j, p ≤ j → j < e → mk_isL (mk_ch S j) = true) : ∀ c ∈ mk_wd S p e, 97 ≤ c ∧ c ≤ 122 := by
  intro c hc
  unfold mk_wd at hc
  rw [List.mem_map] at hc
  obtain ⟨j, hj, rfl⟩ := hc
  rw [List.mem_range] at hj
  have := h (p + j) (by omega) (by omega)
  unfold mk_isL at this
  rw [Bool.and_eq_true, Nat.ble_eq, Nat.ble_eq] at this
  exact this
theorem mn_w_lt {j : Nat} (h : j < 13) : mn_w j < 9223372036854775808 := by
  have : ∀ j, j < 13 → mn_w j < 9223372036854775808 := by decide
  exact this j h
section
variable {N R : Nat}
theorem mn_e2b (x1 x2 : Int32) {t : mw_T} (h4 : t.1 49 4 = 2) (h : ¬ t.1 49 7 = 0 ∨ (4294967295 : Int64) < t.2.1 49 6) : mf_Model_take_b244 N R x1 x2 t = some (.inl (), mw_wi t 49 7 1) := by
  rw [mf_Model_take_b244]
  by_cases h7 : t.1 49 7 = 0
  · rw [if_pos h7, if_pos h4, if_pos (h.resolve_left (fun g => g h7)), mf_Model_take_b290, mf_Model_take_b295, if_pos (Or.inr rfl), if_neg (by rw [h4]; decide)]
  · rw [if_neg h7, mf_Model_take_b290, mf_Model_take_b295, if_pos (Or.inr rfl), if_neg (by rw [h4]; decide)]
theorem mn_e2g (x1 x2 : Int32) {t : mw_T} (h4 : t.1 49 4 = 2) (h7 : t.1 49 7 = 0) (h : ¬ (4294967295 : Int64) < t.2.1 49 6) : mf_Model_take_b244 N R x1 x2 t = some (.inl (), mw_wi t 49 7 0) := by
  rw [mf_Model_take_b244, if_pos h7, if_pos h4, if_neg h, mf_Model_take_b271, if_neg (by rw [h4]; decide), mf_Model_take_b294, mf_Model_take_b295, if_pos (Or.inl rfl), if_neg (by rw [h4]; decide)]
theorem mn_e1b (x1 x2 : Int32) {t : mw_T} (h4 : t.1 49 4 = 1) (h : ¬ t.1 49 7 = 0 ∨ (8 : Int32) < t.1 49 3 - x2) : mf_Model_take_b244 N R x1 x2 t = some (.inl (), mw_wi t 49 7 1) := by
  rw [mf_Model_take_b244]
  by_cases h7 : t.1 49 7 = 0
  · rw [if_pos h7, if_neg (by rw [h4]; decide), mf_Model_take_b271, if_pos h4, if_pos (h.resolve_left (fun g => g h7)), mf_Model_take_b290, mf_Model_take_b295, if_pos (Or.inr rfl), if_neg (by rw [h4]; decide)]
  · rw [if_neg h7, mf_Model_take_b290, mf_Model_take_b295, if_pos (Or.inr rfl), if_neg (by rw [h4]; decide)]
theorem mn_e1g (x1 x2 : Int32) {t : mw_T} (h4 : t.1 49 4 = 1) (h7 : t.1 49 7 = 0) (h : ¬ (8 : Int32) < t.1 49 3 - x2) : mf_Model_take_b244 N R x1 x2 t = some (.inl (), mw_wi t 49 7 0) := by
  rw [mf_Model_take_b244, if_pos h7, if_neg (by rw [h4]; decide), mf_Model_take_b271, if_pos h4, if_neg h, mf_Model_take_b294, mf_Model_take_b295, if_pos (Or.inl rfl), if_neg (by rw [h4]; decide)]
theorem mn_e0 (x1 x2 : Int32) {t : mw_T} (h1 : ¬ t.1 49 4 = 1) (h2 : ¬ t.1 49 4 = 2) : mf_Model_take_b244 N R x1 x2 t = mf_Model_take_b295 N R x1 (if t.1 49 7 = 0 then 0 else 1) t := by
  rw [mf_Model_take_b244]
  by_cases h7 : t.1 49 7 = 0
  · rw [if_pos h7, if_neg h2, mf_Model_take_b271, if_neg h1, mf_Model_take_b294, if_pos h7]
  · rw [if_neg h7, mf_Model_take_b290, if_neg h7]
/-- digits -/
theorem mn_num {S : List Nat} (x1 x2 : Int32) : ∀ (m F e v : Nat) (t : mw_T), mk_TM S t → t.1 49 3 = nI e → t.1 49 4 = 2 → t.2.1 49 6 = nL v → (∀ j, e ≤ j → j < e + m → mk_isD (mk_ch S j) = true) → mk_isD (mk_ch S (e + m)) = false → e + m ≤ S.length → m < F → v ≤ 4294967296 → ∃ T, mf_Model_take_l158 N R F x1 x2 t = some (.inl (), T) ∧ mn_fr t T ∧ T.1 49 3 = nI (e + m) ∧ T.1 49 4 = 2 ∧ T.2.1 49 6 = nL (mk_nv S m e v) ∧ ((T.1 49 7 = 1 ∧ (¬ t.1 49 7 = 0 ∨ 4294967295 < mk_nv S m e v)) ∨ (T.1 49 7 = 0 ∧ t.1 49 7 = 0 ∧ mk_nv S m e v ≤ 4294967295)) := by
  intro m
  induction m with
  | zero =>
    intro F e v t h h3 h4 h6 _ hout he hF hv
    have hS := h.1.1
    obtain ⟨F, rfl⟩ : ∃ k, F = k + 1 := ⟨F - 1, by omega⟩
    simp only [Nat.add_zero] at hout he ⊢
    rw [me_Model_take_l158, mf_Model_take_l158B, if_pos h4, h3, mk_characterM h e (by omega), mi_b, (mk_isDigit _ (mk_ch_lt h.1 e).1 t).2, mi_bs, hout, if_pos (show mj_b2 false = 0 from rfl), mk_nv]
    by_cases hb : ¬ t.1 49 7 = 0 ∨ 4294967295 < v
    · refine ⟨_, mn_e2b x1 x2 h4 (hb.imp id (fun g => by rw [h6]; exact mi_ltLT (a := 4294967295) (by omega) g)), mn_fr_wi t 7 _ (by omega), ?_, ?_, h6, Or.inl ⟨?_, hb⟩⟩
      · rw [mi_wi, if_pos rfl, if_neg (by omega)]; exact h3
      · rw [mi_wi, if_pos rfl, if_neg (by omega)]; exact h4
      · rw [mi_wi, if_pos rfl, if_pos rfl]
    · have h7 : t.1 49 7 = 0 := Classical.byContradiction (fun g => hb (Or.inl g))
      have hv' : v ≤ 4294967295 := by
        have := fun g => hb (Or.inr g)
        omega
      refine ⟨_, mn_e2g x1 x2 h4 h7 (by rw [h6]; exact mi_ltLF (a := 4294967295) (by omega) hv'), mn_fr_wi t 7 _ (by omega), ?_, ?_, h6, Or.inr ⟨?_, h7, hv'⟩⟩
      · rw [mi_wi, if_pos rfl, if_neg (by omega)]; exact h3
      · rw [mi_wi, if_pos rfl, if_neg (by omega)]; exact h4
      · rw [mi_wi, if_pos rfl, if_pos rfl]
  | succ m ih =>
    intro F e v t h h3 h4 h6 hin hout he hF hv
    have hS := h.1.1
    obtain ⟨F, rfl⟩ : ∃ k, F = k + 1 := ⟨F - 1, by omega⟩
    have hd := hin e (Nat.le_refl _) (by omega)
    obtain ⟨d1, d2⟩ := mk_isD_le hd
    rw [me_Model_take_l158, mf_Model_take_l158B, if_pos h4, h3, mk_characterM h e (by omega), mi_b, (mk_isDigit _ (mk_ch_lt h.1 e).1 t).2, mi_bs, hd, if_neg (show ¬ mj_b2 true = 0 by decide), h3, mk_characterM h e (by omega), mi_b, h6, mk_dig hv d1 d2, mk_nv]
    have key : ∀ (a b : Int64), mf_Model_take_b228 N R (mf_Model_take_l158 N R F) x1 x2 a (mw_wl t 49 6 b) = mf_Model_take_l158 N R F x1 x2 (mw_wi (mw_wl (mw_wl t 49 6 b) 49 6 a) 49 3 (nI (e + 1))) := by
      intro a b
      rw [mf_Model_take_b228, mi_wl1, h3, show (1 : Int32) = nI 1 from rfl, mi_add]
    have fin : ∀ (b : Int64), ∃ T, mf_Model_take_l158 N R F x1 x2 (mw_wi (mw_wl (mw_wl t 49 6 b) 49 6 (nL (min (v * 10 + (mk_ch S e - 48)) 4294967296))) 49 3 (nI (e + 1))) = some (.inl (), T) ∧ mn_fr t T ∧ T.1 49 3 = nI (e + (m + 1)) ∧ T.1 49 4 = 2 ∧ T.2.1 49 6 = nL (mk_nv S m (e + 1) (min (v * 10 + (mk_ch S e - 48)) 4294967296)) ∧ ((T.1 49 7 = 1 ∧ (¬ t.1 49 7 = 0 ∨ 4294967295 < mk_nv S m (e + 1) (min (v * 10 + (mk_ch S e - 48)) 4294967296))) ∨ (T.1 49 7 = 0 ∧ t.1 49 7 = 0 ∧ mk_nv S m (e + 1) (min (v * 10 + (mk_ch S e - 48)) 4294967296) ≤ 4294967295)) := by
      intro b
      have fr : mn_fr t (mw_wi (mw_wl (mw_wl t 49 6 b) 49 6 (nL (min (v * 10 + (mk_ch S e - 48)) 4294967296))) 49 3 (nI (e + 1))) := mn_fr_tr (mn_fr_wl t b) (mn_fr_tr (mn_fr_wl _ _) (mn_fr_wi _ 3 _ (by omega)))
      rw [show e + (m + 1) = e + 1 + m by omega] at hout he ⊢
      obtain ⟨T, a1, a2, a3, a4, a5, a6⟩ := ih F (e + 1) (min (v * 10 + (mk_ch S e - 48)) 4294967296) _ (mn_TX h fr) (by rw [mi_wi, if_pos rfl, if_pos rfl]) (by rw [mi_wi, if_pos rfl, if_neg (by omega)]; exact h4) (by rw [mi_wl0, mi_wl, if_pos rfl, if_pos rfl]) (fun j h1 h2 => hin j (by omega) (by omega)) hout he (by omega) (Nat.min_le_right _ _)
      refine ⟨T, a1, mn_fr_tr fr a2, a3, a4, a5, ?_⟩
      have e7 : (mw_wi (mw_wl (mw_wl t 49 6 b) 49 6 (nL (min (v * 10 + (mk_ch S e - 48)) 4294967296))) 49 3 (nI (e + 1))).1 49 7 = t.1 49 7 := by rw [mi_wi, if_pos rfl, if_neg (by omega)]; rfl
      rw [e7] at a6
      exact a6
    by_cases g : 4294967295 < v * 10 + (mk_ch S e - 48)
    · rw [if_pos (show (4294967295 : Int64) < nL _ from mi_ltLT (a := 4294967295) (by omega) g), key]
      have := fin (nL (v * 10 + (mk_ch S e - 48)))
      rw [Nat.min_eq_right (show 4294967296 ≤ v * 10 + (mk_ch S e - 48) by omega)] at this ⊢
      exact this
    · rw [if_neg (show ¬ (4294967295 : Int64) < nL _ from mi_ltLF (a := 4294967295) (by omega) (by omega)), key]
      have := fin (nL (v * 10 + (mk_ch S e - 48)))
      rw [Nat.min_eq_left (show v * 10 + (mk_ch S e - 48) ≤ 4294967296 by omega)] at this ⊢
      exact this
/-- letters -/
theorem mn_wrd (hN : 200 ≤ N) {S : List Nat} (x1 : Int32) (p : Nat) : ∀ (m F e : Nat) (t : mw_T), mk_TM S t → t.1 49 3 = nI e → t.1 49 4 = 1 → p ≤ e → (e ≤ p + 8 → t.2.1 49 6 = nL (mn_pk (mk_wd S p e))) → (∀ j, p ≤ j → j < e + m → mk_isL (mk_ch S j) = true) → mk_isL (mk_ch S (e + m)) = false → e + m ≤ S.length → m < F → ∃ T, mf_Model_take_l80 N R F x1 (nI p) t = some (.inl (), T) ∧ mn_fr t T ∧ T.1 49 3 = nI (e + m) ∧ T.1 49 4 = 1 ∧ ((T.1 49 7 = 1 ∧ (¬ t.1 49 7 = 0 ∨ 8 < e + m - p)) ∨ (T.1 49 7 = 0 ∧ t.1 49 7 = 0 ∧ e + m ≤ p + 8 ∧ T.2.1 49 6 = nL (mn_pk (mk_wd S p (e + m))))) := by
  intro m
  induction m with
  | zero =>
    intro F e t h h3 h4 hpe h6 _ hout he hF
    have hS := h.1.1
    obtain ⟨F, rfl⟩ : ∃ k, F = k + 1 := ⟨F - 1, by omega⟩
    obtain ⟨N, rfl⟩ : ∃ k, N = k + 1 := ⟨N - 1, by omega⟩
    simp only [Nat.add_zero] at hout he ⊢
    rw [me_Model_take_l80, mf_Model_take_l80B, if_pos h4, h3, mk_characterM h e (by omega), mi_b, (mk_isLetter _ (mk_ch_lt h.1 e).1 t).2, mi_bs, hout, if_pos (show mj_b2 false = 0 from rfl), me_Model_take_l158, mf_Model_take_l158B, if_neg (by rw [h4]; decide)]
    by_cases hb : ¬ t.1 49 7 = 0 ∨ 8 < e - p
    · refine ⟨_, mn_e1b x1 (nI p) h4 (hb.imp id (fun g => by rw [h3, mi_sub hpe]; exact mi_ltT (a := 8) (by omega) g)), mn_fr_wi t 7 _ (by omega), ?_, ?_, Or.inl ⟨?_, hb⟩⟩
      · rw [mi_wi, if_pos rfl, if_neg (by omega)]; exact h3
      · rw [mi_wi, if_pos rfl, if_neg (by omega)]; exact h4
      · rw [mi_wi, if_pos rfl, if_pos rfl]
    · have h7 : t.1 49 7 = 0 := Classical.byContradiction (fun g => hb (Or.inl g))
      have hv' : e ≤ p + 8 := by
        have := fun g => hb (Or.inr g)
        omega
      refine ⟨_, mn_e1g x1 (nI p) h4 h7 (by rw [h3, mi_sub hpe]; exact mi_ltF (a := 8) (by omega) (by omega)), mn_fr_wi t 7 _ (by omega), ?_, ?_, Or.inr ⟨?_, h7, hv', h6 hv'⟩⟩
      · rw [mi_wi, if_pos rfl, if_neg (by omega)]; exact h3
      · rw [mi_wi, if_pos rfl, if_neg (by omega)]; exact h4
      · rw [mi_wi, if_pos rfl, if_pos rfl]
  | succ m ih =>
    intro F e t h h3 h4 hpe h6 hin hout he hF
    have hS := h.1.1
    obtain ⟨F, rfl⟩ : ∃ k, F = k + 1 := ⟨F - 1, by omega⟩
    have hd := hin e hpe (by omega)
    have key : ∀ (a : Int64), mf_Model_take_b142 N R (mf_Model_take_l80 N R F) x1 (nI p) a t = mf_Model_take_l80 N R F x1 (nI p) (mw_wi (mw_wl t 49 6 a) 49 3 (nI (e + 1))) := by
      intro a
      rw [mf_Model_take_b142, h3, show (1 : Int32) = nI 1 from rfl, mi_add]
    have fin : ∀ (a : Int64), (e + 1 ≤ p + 8 → a = nL (mn_pk (mk_wd S p (e + 1)))) → ∃ T, mf_Model_take_l80 N R F x1 (nI p) (mw_wi (mw_wl t 49 6 a) 49 3 (nI (e + 1))) = some (.inl (), T) ∧ mn_fr t T ∧ T.1 49 3 = nI (e + (m + 1)) ∧ T.1 49 4 = 1 ∧ ((T.1 49 7 = 1 ∧ (¬ t.1 49 7 = 0 ∨ 8 < e + (m + 1) - p)) ∨ (T.1 49 7 = 0 ∧ t.1 49 7 = 0 ∧ e + (m + 1) ≤ p + 8 ∧ T.2.1 49 6 = nL (mn_pk (mk_wd S p (e + (m + 1)))))) := by
      intro a ha
      have fr : mn_fr t (mw_wi (mw_wl t 49 6 a) 49 3 (nI (e + 1))) := mn_fr_tr (mn_fr_wl t a) (mn_fr_wi _ 3 _ (by omega))
      rw [show e + (m + 1) = e + 1 + m by omega] at hin hout he ⊢
      obtain ⟨T, a1, a2, a3, a4, a6⟩ := ih F (e + 1) _ (mn_TX h fr) (by rw [mi_wi, if_pos rfl, if_pos rfl]) (by rw [mi_wi, if_pos rfl, if_neg (by omega)]; exact h4) (by omega) (fun g => by rw [mi_wl0, mi_wl, if_pos rfl, if_pos rfl]; exact ha g) hin hout he (by omega)
      refine ⟨T, a1, mn_fr_tr fr a2, a3, a4, ?_⟩
      have e7 : (mw_wi (mw_wl t 49 6 a) 49 3 (nI (e + 1))).1 49 7 = t.1 49 7 := by rw [mi_wi, if_pos rfl, if_neg (by omega)]; rfl
      rw [e7] at a6
      exact a6
    rw [me_Model_take_l80, mf_Model_take_l80B, if_pos h4, h3, mk_characterM h e (by omega), mi_b, (mk_isLetter _ (mk_ch_lt h.1 e).1 t).2, mi_bs, hd, if_neg (show ¬ mj_b2 true = 0 by decide), h3, mi_sub hpe]
    by_cases g : e - p < 8
    · rw [if_pos (show nI (e - p) < (8 : Int32) from mi_ltT (b := 8) (by omega) g), mk_characterM h e (by omega), mi_b, h3, mi_sub hpe, h6 (by omega), mi_IL (by have := (mk_ch_lt h.1 e).1; omega), mi_orL g (by
        have := mn_pk_lt (mk_wd S p e) (fun c hc => by have := mk_wd_mem (fun j h1 h2 => hin j h1 (by omega)) c hc; omega)
        rwa [mk_wd_len] at this) (by have := (mk_ch_lt h.1 e).1; omega), key]
      exact fin _ (fun _ => by rw [mk_wd_suc S hpe, mn_pk_ap, mk_wd_len])
    · rw [if_neg (show ¬ nI (e - p) < (8 : Int32) from mi_ltF (b := 8) (by omega) (by omega)), key]
      exact fin _ (fun g' => by omega)
end
