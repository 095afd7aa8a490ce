/-! TOOLS: ints as naturals, states written and read -/
section
variable {α β : Type} {t : mw_T} {v : β} {q o : Nat}
theorem mi_b {g : β → mw_T → mw_X α} : mw_b (some (.inl v, t)) g = g v t := rfl
theorem mi_bx {g : β → mw_T → mw_X α} : mw_b (some (.inr q, t)) g = some (.inr q, t) := rfl
theorem mi_bs {g : β → mw_T → mw_X α} : mw_bs (some (.inl v, t)) g = g v t := rfl
theorem mi_t {g : β → mw_T → mw_X α} {h : Nat → mw_T → mw_X α} : mw_t (some (.inl v, t)) g h = g v t := rfl
theorem mi_tx {g : β → mw_T → mw_X α} {h : Nat → mw_T → mw_X α} : mw_t (some (.inr q, t)) g h = h q t := rfl
theorem mi_b4 {g : β → mw_T → mw_Y α} : mw_b4 o (some (.inl v, t)) g = g v t := rfl
theorem mi_b4x {g : β → mw_T → mw_Y α} : mw_b4 o (some (.inr q, t)) g = some (.inr q, o, t) := rfl
theorem mi_b4s {g : β → mw_T → mw_Y α} : mw_b4s o (some (.inl v, t)) g = g v t := rfl
theorem mi_b44 {g : β → Nat → mw_T → mw_Y α} : mw_b44 (some (.inl v, o, t)) g = g v o t := rfl
theorem mi_t4 {g : β → Nat → mw_T → mw_Y α} {h : Nat → Nat → mw_T → mw_Y α} : mw_t4 (some (.inl v, o, t)) g h = g v o t := rfl
theorem mi_t4x {g : β → Nat → mw_T → mw_Y α} {h : Nat → Nat → mw_T → mw_Y α} : mw_t4 (some (.inr q, o, t)) g h = h q o t := rfl
end
theorem mi_wi (t : mw_T) (r i : Nat) (v : Int32) (q j : Nat) : (mw_wi t r i v).1 q j = if q = r then (if j = i then v else t.1 q j) else t.1 q j := rfl
theorem mi_wi2 (t : mw_T) (r i : Nat) (v : Int32) : (mw_wi t r i v).2 = t.2 := rfl
theorem mi_wl (t : mw_T) (r i : Nat) (v : Int64) (q j : Nat) : (mw_wl t r i v).2.1 q j = if q = r then (if j = i then v else t.2.1 q j) else t.2.1 q j := rfl
theorem mi_wl1 (t : mw_T) (r i : Nat) (v : Int64) : (mw_wl t r i v).1 = t.1 := rfl
theorem mi_wl2 (t : mw_T) (r i : Nat) (v : Int64) : (mw_wl t r i v).2.2 = t.2.2 := rfl
theorem mi_we (t : mw_T) : (mw_we t).1 = t.1 := rfl
theorem mi_we1 (t : mw_T) : (mw_we t).2.1 = t.2.1 := rfl
theorem mi_we2 (t : mw_T) : (mw_we t).2.2 = t.2.2 + 1 := rfl
/-- ints -/
theorem mi_nI (n : Nat) (h : n < 2147483648) : (nI n).toInt = n := by
  unfold nI
  rw [Int32.toInt_ofNat']
  have hs : Int32.size = 4294967296 := rfl
  rw [hs]
  exact Int.bmod_eq_of_le (by omega) (by omega)
theorem mi_lt {a b : Nat} (ha : a < 2147483648) (hb : b < 2147483648) : (nI a < nI b) = (a < b) := by
  rw [Int32.lt_iff_toInt_lt, mi_nI a ha, mi_nI b hb]
  exact propext (by omega)
theorem mi_eq {a b : Nat} (ha : a < 2147483648) (hb : b < 2147483648) : (nI a = nI b) = (a = b) := by
  rw [← Int32.toInt_inj, mi_nI a ha, mi_nI b hb]
  exact propext (by omega)
theorem mi_add (a b : Nat) : nI a + nI b = nI (a + b) := by unfold nI; exact (Int32.ofNat_add a b).symm
theorem mi_mul (a b : Nat) : nI a * nI b = nI (a * b) := by unfold nI; exact (Int32.ofNat_mul a b).symm
theorem mi_sub {a b : Nat} (h : b ≤ a) : nI a - nI b = nI (a - b) := by
  have : nI (a - b) + nI b = nI a := by rw [mi_add]; congr 1; omega
  rw [← this]; exact Int32.add_sub_cancel _ _
theorem mi_tn {n : Nat} (h : n < 2147483648) : (nI n).toNatClampNeg = n := by
  rw [← Int32.toNat_toInt, mi_nI n h]; rfl
theorem mi_in {i n : Nat} (h : i < 2147483648) : mj_in (nI i) n = decide (i < n) := by
  unfold mj_in
  rw [mi_tn h]
  have : ¬ nI i < 0 := by rw [show (0 : Int32) = nI 0 from rfl, mi_lt h (by omega)]; omega
  rw [decide_eq_false this]
  rw [Bool.not_false, Bool.true_and, Bool.eq_iff_iff, Nat.blt_eq, decide_eq_true_iff]
theorem mi_pos {x : Int32} (h : ¬ x < 0) : ∃ n, n < 2147483648 ∧ x = nI n := by
  refine ⟨x.toInt.toNat, ?_, ?_⟩
  · have := Int32.toInt_lt x; omega
  · rw [← Int32.toInt_inj]
    rw [Int32.lt_iff_toInt_lt] at h
    have h0 : (0 : Int32).toInt = 0 := rfl
    have := Int32.toInt_lt x
    rw [mi_nI _ (by omega)]; omega
theorem mi_l (n : Nat) : (OfNat.ofNat n : Int32) = nI n := rfl
theorem mi_l1 : Int32.ofInt 1 = nI 1 := rfl
theorem mi_l4 : Int32.ofInt 4 = nI 4 := rfl
