/-! BYTES of a long, written in a row -/
theorem mi_bits (x : BitVec 64) (s : Nat) (hs : s + 8 ≤ 64) : ((x >>> s).signExtend 32 &&& 255#32) = ((x.sshiftRight s) &&& 255#64).signExtend 32 := by
  apply BitVec.eq_of_getLsbD_eq
  intro i hi
  have h1 : ∀ i, i < 32 → (255#32).getLsbD i = decide (i < 8) := by decide
  have h2 : ∀ i, i < 32 → (255#64).getLsbD i = decide (i < 8) := by decide
  have h3 : i < 64 := by omega
  simp only [BitVec.getLsbD_and, BitVec.getLsbD_signExtend, if_pos h3, BitVec.getLsbD_ushiftRight, BitVec.getLsbD_sshiftRight, h1 i hi, h2 i hi, decide_eq_true hi, Bool.true_and]
  by_cases h8 : i < 8
  · have e1 : decide (64 ≤ i) = false := decide_eq_false (by omega)
    have e2 : s + i < 64 := by omega
    rw [e1, if_pos e2]
    rfl
  · rw [decide_eq_false h8, Bool.and_false, Bool.and_false]
/-- byte k of a long -/
def mi_byte (x : Int64) (k : Nat) : Int32 := ((x.toUInt64 >>> (((8 : Int32) * nI k).toInt64.toUInt64 &&& Int64.toUInt64 63)).toInt64).toInt32 &&& (255 : Int32)
theorem mi_byte_m (x : Int64) {k : Nat} (h : k < 8) : ((x >>> (((8 : Int32) * nI k).toInt64 &&& 63)) &&& (255 : Int64)).toInt32 = mi_byte x k := by
  unfold mi_byte
  have e1 : ((8 : Int32) * nI k).toInt64 &&& 63 = Int64.ofNat (8 * k) := by
    rcases k with _ | _ | _ | _ | _ | _ | _ | _ | k <;> first | rfl | omega
  have e2 : ((8 : Int32) * nI k).toInt64.toUInt64 &&& Int64.toUInt64 63 = UInt64.ofNat (8 * k) := by
    rcases k with _ | _ | _ | _ | _ | _ | _ | _ | k <;> first | rfl | omega
  rw [e1, e2]
  rw [← Int32.toBitVec_inj]
  simp only [Int32.toBitVec_and, Int64.toBitVec_toInt32, Int64.toBitVec_and, Int64.toBitVec_shiftRight, UInt64.toBitVec_toInt64, UInt64.toBitVec_shiftRight, Int64.toBitVec_toUInt64]
  have e3 : (x.toBitVec >>> ((UInt64.ofNat (8 * k)).toBitVec % 64)) = x.toBitVec >>> (8 * k) := by
    rcases k with _ | _ | _ | _ | _ | _ | _ | _ | k <;> first | rfl | omega
  have e4 : (x.toBitVec.sshiftRight' ((Int64.ofNat (8 * k)).toBitVec.smod 64)) = x.toBitVec.sshiftRight (8 * k) := by
    rcases k with _ | _ | _ | _ | _ | _ | _ | _ | k <;> first | rfl | omega
  rw [e3, e4]
  exact (mi_bits x.toBitVec (8 * k) (by omega)).symm
theorem mi_and255 (x : Int32) : ∃ c, c ≤ 255 ∧ x &&& (255 : Int32) = nI c := by
  refine ⟨(x.toBitVec &&& 255#32).toNat, ?_, ?_⟩
  · rw [BitVec.toNat_and]
    exact Nat.le_trans Nat.and_le_right (by decide)
  · rw [← Int32.toBitVec_inj]
    show x.toBitVec &&& 255#32 = BitVec.ofNat 32 (x.toBitVec &&& 255#32).toNat
    rw [BitVec.ofNat_toNat, BitVec.setWidth_eq]
theorem mi_byte_nI (x : Int64) (k : Nat) : ∃ c, c ≤ 255 ∧ mi_byte x k = nI c := mi_and255 _
/-- bytes k .. k + m - 1 of a long, at places p + k .. of role r -/
def mi_puts (r p : Nat) (x : Int64) : Nat → Nat → mw_T → mw_T
  | 0, _, t => t
  | m + 1, k, t => mi_puts r p x m (k + 1) (mw_wi t r (p + k) (mi_byte x k))
theorem mi_puts1 (r p : Nat) (x : Int64) : ∀ (m k : Nat) (t : mw_T) (q j : Nat), (mi_puts r p x m k t).1 q j = if q = r ∧ p + k ≤ j ∧ j < p + k + m then mi_byte x (j - p) else t.1 q j := by
  intro m
  induction m with
  | zero => intro k t q j; rw [mi_puts, if_neg (by omega)]
  | succ m ih =>
    intro k t q j
    rw [mi_puts, ih, mi_wi]
    by_cases hq : q = r
    · by_cases hj : j = p + k
      · subst hq; subst hj
        rw [if_neg (by omega), if_pos rfl, if_pos rfl, if_pos (by omega)]
        congr 1; omega
      · by_cases hr : p + k + 1 ≤ j ∧ j < p + k + 1 + m
        · rw [if_pos (by omega), if_pos (by omega)]
        · rw [if_neg (by omega), if_pos hq, if_neg hj, if_neg (by omega)]
    · rw [if_neg (fun h => hq h.1), if_neg hq, if_neg (fun h => hq h.1)]
theorem mi_puts2 (r p : Nat) (x : Int64) : ∀ (m k : Nat) (t : mw_T), (mi_puts r p x m k t).2 = t.2 := by
  intro m
  induction m with
  | zero => intro k t; rfl
  | succ m ih => intro k t; rw [mi_puts, ih]; rfl
theorem mi_byteOf (N R : Nat) (x : Int64) (k : Nat) (t : mw_T) : mf_Sieve_byteOf N R x (nI k) t = some (.inl (mi_byte x k), t) := rfl
/-- the packet's loop -/
theorem mi_append (N R : Nat) (x : Int64) (n p : Nat) (hn : n ≤ 8) (hp : p + n ≤ 80) : ∀ (m k f : Nat) (t : mw_T), k + m = n → t.1 3 1 = nI p → mf_Packet_append_l3 N R (m + 1 + f) x (nI n) (nI k) t = some (.inl (), mw_wi (mi_puts 4 p x m k t) 3 1 (nI (p + n))) := by
  intro m
  induction m with
  | zero =>
    intro k f t hk ht
    rw [show 0 + 1 + f = f + 1 by omega, me_Packet_append_l3, mf_Packet_append_l3B, if_neg (by rw [mi_lt (by omega) (by omega)]; omega), ht, mi_add]
    rfl
  | succ m ih =>
    intro k f t hk ht
    rw [show m + 1 + 1 + f = (m + 1 + f) + 1 by omega, me_Packet_append_l3, mf_Packet_append_l3B, if_pos (by rw [mi_lt (by omega) (by omega)]; omega), mi_byteOf, mi_bs, ht, mi_add, mi_in (by omega), if_pos (decide_eq_true (by omega)), mi_tn (by omega), mi_l1, mi_add]
    exact ih (k + 1) f _ (by omega) ht
theorem mi_mput (N R : Nat) (x : Int64) (n p : Nat) (hn : n ≤ 8) (hp : p + n ≤ 80) : ∀ (m k f : Nat) (t : mw_T), k + m = n → t.1 49 50 = nI p → mf_Model_put_l32 N R (m + 1 + f) x (nI n) (nI k) t = some (.inl (nI (p + n)), mw_wi (mi_puts 83 p x m k t) 49 50 (nI (p + n))) := by
  intro m
  induction m with
  | zero =>
    intro k f t hk ht
    rw [show 0 + 1 + f = f + 1 by omega, me_Model_put_l32, mf_Model_put_l32B, if_neg (by rw [mi_lt (by omega) (by omega)]; omega), ht, mi_add]
    rfl
  | succ m ih =>
    intro k f t hk ht
    rw [show m + 1 + 1 + f = (m + 1 + f) + 1 by omega, me_Model_put_l32, mf_Model_put_l32B, if_pos (by rw [mi_lt (by omega) (by omega)]; omega), ht, mi_add, mi_in (by omega), if_pos (decide_eq_true (by omega)), mi_tn (by omega), mi_l1, mi_add, mi_byte_m x (by omega)]
    exact ih (k + 1) f _ (by omega) ht
