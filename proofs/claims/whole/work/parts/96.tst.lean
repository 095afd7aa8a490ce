/-! TEST: the functions, and that the bytecode does what they say (written by wip/whole/dec.py) -/
def mf_Text_length (N R : Nat) (t : mw_T) : mw_X Int32 :=
  (some (.inl (t.1 1 1), t))
theorem mp_Text_length (N R s : Nat) : ∀ (t : mw_T), mw_W (mw_d3 mw_eI s) 0 kText_length (0, [(0, .ref 1)], [], mw_E s t) (mf_Text_length N R t) := by
  intro t
  unfold mf_Text_length
  exact (mw_go 2 (4, [(0, .ref 1)], [.int (t.1 1 1)], mw_E s t) (by with_unfolding_all rfl) (mw_ri (by with_unfolding_all rfl) (by with_unfolding_all rfl) rfl))
theorem mg_Text_length (N R : Nat) : ∀ (t : mw_T), mw_F [] 0 [] t (mf_Text_length N R t) := by
  intro t
  exact (mg_rt mg_rf)
def mf_Text_at (N R : Nat) (x1 : Int32) (t : mw_T) : mw_X Int32 :=
  (if x1 < (t.1 1 1) then (if mj_in x1 160 = true then (some (.inl (t.1 2 x1.toNatClampNeg), t)) else none) else (some (.inl (0 : Int32), t)))
theorem mp_Text_at (N R s : Nat) : ∀ (x1 : Int32) (t : mw_T), mw_W (mw_d3 mw_eI s) 0 kText_at (0, [(0, .ref 1), (1, .int x1)], [], mw_E s t) (mf_Text_at N R x1 t) := by
  intro x1 t
  unfold mf_Text_at
  exact (mw_go 3 (5, [(0, .ref 1), (1, .int x1)], [.int (t.1 1 1), .int x1], mw_E s t) (by with_unfolding_all rfl) (mw_l2 8 17 (by with_unfolding_all rfl) (mw_go 3 (13, [(0, .ref 1), (1, .int x1)], [.int x1, .ref 2], mw_E s t) (by with_unfolding_all rfl) (mw_ba 14 (by with_unfolding_all rfl) (by with_unfolding_all rfl) (by with_unfolding_all rfl) (mw_go 1 (18, [(0, .ref 1), (1, .int x1)], [.int (t.1 2 x1.toNatClampNeg)], mw_E s t) (by with_unfolding_all rfl) (mw_ri (by with_unfolding_all rfl) (by with_unfolding_all rfl) rfl)))) (mw_go 1 (18, [(0, .ref 1), (1, .int x1)], [.int (0 : Int32)], mw_E s t) (by with_unfolding_all rfl) (mw_ri (by with_unfolding_all rfl) (by with_unfolding_all rfl) rfl))))
theorem mg_Text_at (N R : Nat) : ∀ (x1 : Int32) (t : mw_T), mw_F [] 0 [] t (mf_Text_at N R x1 t) := by
  intro x1 t
  exact (mg_if (mg_gd (mg_rt mg_rf)) (mg_rt mg_rf))
def mf_Sieve_byteOf (N R : Nat) (x0 : Int64) (x2 : Int32) (t : mw_T) : mw_X Int32 :=
  (some (.inl (((x0.toUInt64 >>> (((8 : Int32) * x2).toInt64.toUInt64 &&& Int64.toUInt64 63)).toInt64).toInt32 &&& (255 : Int32)), t))
theorem mp_Sieve_byteOf (N R s : Nat) : ∀ (x0 : Int64) (x2 : Int32) (t : mw_T), mw_W (mw_d3 mw_eI s) 0 kSieve_byteOf (0, [(0, .long x0), (2, .int x2)], [], mw_E s t) (mf_Sieve_byteOf N R x0 x2 t) := by
  intro x0 x2 t
  unfold mf_Sieve_byteOf
  exact (mw_go 8 (11, [(0, .long x0), (2, .int x2)], [.int (((x0.toUInt64 >>> (((8 : Int32) * x2).toInt64.toUInt64 &&& Int64.toUInt64 63)).toInt64).toInt32 &&& (255 : Int32))], mw_E s t) (by with_unfolding_all rfl) (mw_ri (by with_unfolding_all rfl) (by with_unfolding_all rfl) rfl))
theorem mg_Sieve_byteOf (N R : Nat) : ∀ (x0 : Int64) (x2 : Int32) (t : mw_T), mw_F [] 0 [] t (mf_Sieve_byteOf N R x0 x2 t) := by
  intro x0 x2 t
  exact (mg_rt mg_rf)
def mf_Text_append_l3B (N R : Nat) (r3 : Int64 → Int32 → Int32 → mw_T → mw_X Unit) (x1 : Int64) (x3 : Int32) (x4 : Int32) (t : mw_T) : mw_X Unit :=
  (if x4 < x3 then (mw_bs (mf_Sieve_byteOf N R x1 x4 t) (fun v1 t1 => (if mj_in ((t.1 1 1) + x4) 160 = true then (r3 x1 x3 (x4 + Int32.ofInt (1)) (mw_wi t1 2 ((t.1 1 1) + x4).toNatClampNeg (vp_nar .byte v1.toInt8.toInt32))) else none))) else (some (.inl (), (mw_wi t 1 1 ((t.1 1 1) + x3)))))
def mf_Text_append_l3 (N R : Nat) : Nat → Int64 → Int32 → Int32 → mw_T → mw_X Unit
  | 0 => fun _ _ _ _ => none
  | n + 1 => fun  x1 x3 x4 t => mf_Text_append_l3B N R (mf_Text_append_l3 N R n)  x1 x3 x4 t
def mf_Text_append (N R : Nat) (x1 : Int64) (x3 : Int32) (t : mw_T) : mw_X Unit :=
  (mf_Text_append_l3 N R N x1 x3 (0 : Int32) t)
theorem mp_Text_append_l3B (N R s : Nat) (r3 : Int64 → Int32 → Int32 → mw_T → mw_X Unit) (h3 : ∀ (x1 : Int64) (x3 : Int32) (x4 : Int32) (t : mw_T), mw_W (mw_d3 mw_eV s) 1 kText_append (3, [(0, .ref 1), (1, .long x1), (3, .int x3), (4, .int x4)], [], mw_E s t) (r3 x1 x3 x4 t)) : ∀ (x1 : Int64) (x3 : Int32) (x4 : Int32) (t : mw_T), mw_W (mw_d3 mw_eV s) 1 kText_append (3, [(0, .ref 1), (1, .long x1), (3, .int x3), (4, .int x4)], [], mw_E s t) (mf_Text_append_l3B N R r3 x1 x3 x4 t) := by
  intro x1 x3 x4 t
  unfold mf_Text_append_l3B
  exact (mw_go 2 (6, [(0, .ref 1), (1, .long x1), (3, .int x3), (4, .int x4)], [.int x3, .int x4], mw_E s t) (by with_unfolding_all rfl) (mw_l2 9 34 (by with_unfolding_all rfl) (mw_go 8 (23, [(0, .ref 1), (1, .long x1), (3, .int x3), (4, .int x4)], [.int x4, .long x1, .int ((t.1 1 1) + x4), .ref 2], mw_E s t) (by with_unfolding_all rfl) (mw_cIs 26 [.long x1, .int x4] [.int ((t.1 1 1) + x4), .ref 2] (by with_unfolding_all rfl) (mp_Sieve_byteOf N R s x1 x4 t) (by omega) (fun v1 t1 => (mw_go 1 (27, [(0, .ref 1), (1, .long x1), (3, .int x3), (4, .int x4)], [.int v1.toInt8.toInt32, .int ((t.1 1 1) + x4), .ref 2], mw_E s t1) (by with_unfolding_all rfl) (mw_bs' 28 (by with_unfolding_all rfl) (by with_unfolding_all rfl) (by with_unfolding_all rfl) (mw_go 2 (3, [(4, .int (x4 + Int32.ofInt (1))), (0, .ref 1), (1, .long x1), (3, .int x3)], [], mw_E s (mw_wi t1 2 ((t.1 1 1) + x4).toNatClampNeg (vp_nar .byte v1.toInt8.toInt32))) (by with_unfolding_all rfl) (mw_jp [(0, .ref 1), (1, .long x1), (3, .int x3), (4, .int (x4 + Int32.ofInt (1)))] (by with_unfolding_all rfl) (by with_unfolding_all rfl) (by with_unfolding_all rfl) (h3 x1 x3 (x4 + Int32.ofInt (1)) (mw_wi t1 2 ((t.1 1 1) + x4).toNatClampNeg (vp_nar .byte v1.toInt8.toInt32)))))))))) (mw_go 6 (44, [(0, .ref 1), (1, .long x1), (3, .int x3), (4, .int x4)], [], mw_E s (mw_wi t 1 1 ((t.1 1 1) + x3))) (by with_unfolding_all rfl) (mw_rv (by with_unfolding_all rfl) (by with_unfolding_all rfl) rfl))))
theorem mp_Text_append_l3 (N R s : Nat) : ∀ (n : Nat), ∀ (x1 : Int64) (x3 : Int32) (x4 : Int32) (t : mw_T), mw_W (mw_d3 mw_eV s) 1 kText_append (3, [(0, .ref 1), (1, .long x1), (3, .int x3), (4, .int x4)], [], mw_E s t) (mf_Text_append_l3 N R n x1 x3 x4 t) := by
  intro n
  induction n with
  | zero => intros; exact mw_no
  | succ n ih => exact mp_Text_append_l3B N R s (mf_Text_append_l3 N R n) ih
theorem mp_Text_append (N R s : Nat) : ∀ (x1 : Int64) (x3 : Int32) (t : mw_T), mw_W (mw_d3 mw_eV s) 1 kText_append (0, [(0, .ref 1), (1, .long x1), (3, .int x3)], [], mw_E s t) (mf_Text_append N R x1 x3 t) := by
  intro x1 x3 t
  unfold mf_Text_append
  exact (mw_go 2 (3, [(4, .int (0 : Int32)), (0, .ref 1), (1, .long x1), (3, .int x3)], [], mw_E s t) (by with_unfolding_all rfl) (mw_jp [(0, .ref 1), (1, .long x1), (3, .int x3), (4, .int (0 : Int32))] (by with_unfolding_all rfl) (by with_unfolding_all rfl) (by with_unfolding_all rfl) (mp_Text_append_l3 N R s N x1 x3 (0 : Int32) t)))
theorem mg_Text_append_l3B (N R : Nat) (r3 : Int64 → Int32 → Int32 → mw_T → mw_X Unit) (g3 : ∀ (x1 : Int64) (x3 : Int32) (x4 : Int32) (t : mw_T), mw_F [] 0 [(1, 1), (2, 1000)] t (r3 x1 x3 x4 t)) : ∀ (x1 : Int64) (x3 : Int32) (x4 : Int32) (t : mw_T), mw_F [] 0 [(1, 1), (2, 1000)] t (mf_Text_append_l3B N R r3 x1 x3 x4 t) := by
  intro x1 x3 x4 t
  exact (mg_if (mg_bs mg_rf (mg_Sieve_byteOf N R x1 x4 t) (mw_lq0 (by rfl)) (fun v1 t1 e1 => (mg_gd (mg_jp (mg_wiB 2 1000 (by rfl) (Or.inl rfl) e1) (g3 x1 x3 (x4 + Int32.ofInt (1)) (mw_wi t1 2 ((t.1 1 1) + x4).toNatClampNeg (vp_nar .byte v1.toInt8.toInt32))))))) (mg_rt (mg_wiB 1 1 (by rfl) (Or.inr rfl) mg_rf)))
theorem mg_Text_append_l3 (N R : Nat) : ∀ (n : Nat), ∀ (x1 : Int64) (x3 : Int32) (x4 : Int32) (t : mw_T), mw_F [] 0 [(1, 1), (2, 1000)] t (mf_Text_append_l3 N R n x1 x3 x4 t) := by
  intro n
  induction n with
  | zero => intros; exact mg_no
  | succ n ih => exact mg_Text_append_l3B N R (mf_Text_append_l3 N R n) ih
theorem mg_Text_append (N R : Nat) : ∀ (x1 : Int64) (x3 : Int32) (t : mw_T), mw_F [] 0 [(1, 1), (2, 1000)] t (mf_Text_append N R x1 x3 t) := by
  intro x1 x3 t
  exact (mg_jp mg_rf (mg_Text_append_l3 N R N x1 x3 (0 : Int32) t))
