/-! DECOMPILED 0: the functions, and that the bytecode does what they say (written by wip/whole/dec.py) -/
def mf_Sieve_isByteCount (N R : Nat) (x0 : Int32) (t : mw_T) : mw_X Int32 :=
  (if x0 < (1 : Int32) then (some (.inl (0 : Int32), t)) else (if (8 : Int32) < x0 then (some (.inl (0 : Int32), t)) else (some (.inl (1 : Int32), t))))
set_option maxRecDepth 100000 in
theorem mp_Sieve_isByteCount (N R s : Nat) : ∀ (x0 : Int32) (t : mw_T), mw_W (mw_d3 mw_eI s) 0 kSieve_isByteCount (0, [(0, .int x0)], [], mw_E s t) (mf_Sieve_isByteCount N R x0 t) := by
  intro x0 t
  unfold mf_Sieve_isByteCount
  exact (mw_go 2 (2, [(0, .int x0)], [.int (1 : Int32), .int x0], mw_E s t) (by with_unfolding_all rfl) (mw_l2 15 5 (by with_unfolding_all rfl) (mw_go 1 (16, [(0, .int x0)], [.int (0 : Int32)], mw_E s t) (by with_unfolding_all rfl) (mw_ri (by with_unfolding_all rfl) (by with_unfolding_all rfl) rfl)) (mw_go 2 (8, [(0, .int x0)], [.int (8 : Int32), .int x0], mw_E s t) (by with_unfolding_all rfl) (mw_g2 15 11 (by with_unfolding_all rfl) (mw_go 1 (16, [(0, .int x0)], [.int (0 : Int32)], mw_E s t) (by with_unfolding_all rfl) (mw_ri (by with_unfolding_all rfl) (by with_unfolding_all rfl) rfl)) (mw_go 2 (16, [(0, .int x0)], [.int (1 : Int32)], mw_E s t) (by with_unfolding_all rfl) (mw_ri (by with_unfolding_all rfl) (by with_unfolding_all rfl) rfl))))))
theorem mg_Sieve_isByteCount (N R : Nat) : ∀ (x0 : Int32) (t : mw_T), mw_F [] 0 [] t (mf_Sieve_isByteCount N R x0 t) := by
  intro x0 t
  exact (mg_if (mg_rt mg_rf) (mg_if (mg_rt mg_rf) (mg_rt mg_rf)))
def mf_Sieve_byteOf (N R : Nat) (x0 : Int64) (x2 : Int32) (t : mw_T) : mw_X Int32 :=
  (some (.inl (((x0.toUInt64 >>> (((8 : Int32) * x2).toInt64.toUInt64 &&& Int64.toUInt64 63)).toInt64).toInt32 &&& (255 : Int32)), t))
set_option maxRecDepth 100000 in
theorem mp_Sieve_byteOf (N R s : Nat) : ∀ (x0 : Int64) (x2 : Int32) (t : mw_T), mw_W (mw_d3 mw_eI s) 0 kSieve_byteOf (0, [(0, .long x0), (2, .int x2)], [], mw_E s t) (mf_Sieve_byteOf N R x0 x2 t) := by
  intro x0 x2 t
  unfold mf_Sieve_byteOf
  exact (mw_go 8 (11, [(0, .long x0), (2, .int x2)], [.int (((x0.toUInt64 >>> (((8 : Int32) * x2).toInt64.toUInt64 &&& Int64.toUInt64 63)).toInt64).toInt32 &&& (255 : Int32))], mw_E s t) (by with_unfolding_all rfl) (mw_ri (by with_unfolding_all rfl) (by with_unfolding_all rfl) rfl))
theorem mg_Sieve_byteOf (N R : Nat) : ∀ (x0 : Int64) (x2 : Int32) (t : mw_T), mw_F [] 0 [] t (mf_Sieve_byteOf N R x0 x2 t) := by
  intro x0 x2 t
  exact (mg_rt mg_rf)
def mf_Text_areCharacters_l2B (N R : Nat) (r2 : Int64 → Int32 → Int32 → mw_T → mw_X Int32) (x0 : Int64) (x2 : Int32) (x3 : Int32) (t : mw_T) : mw_X Int32 :=
  (if x3 < x2 then (mw_bs (mf_Sieve_byteOf N R x0 x3 t) (fun v1 t1 => (if v1 < (32 : Int32) then (some (.inl (0 : Int32), t1)) else (if (126 : Int32) < v1 then (some (.inl (0 : Int32), t1)) else (r2 x0 x2 (x3 + Int32.ofInt (1)) t1))))) else (some (.inl (1 : Int32), t)))
def mf_Text_areCharacters_l2 (N R : Nat) : Nat → Int64 → Int32 → Int32 → mw_T → mw_X Int32
  | 0 => fun _ _ _ _ => none
  | n + 1 => fun  x0 x2 x3 t => mf_Text_areCharacters_l2B N R (mf_Text_areCharacters_l2 N R n)  x0 x2 x3 t
def mf_Text_areCharacters (N R : Nat) (x0 : Int64) (x2 : Int32) (t : mw_T) : mw_X Int32 :=
  (mf_Text_areCharacters_l2 N R N x0 x2 (0 : Int32) t)
set_option maxRecDepth 100000 in
theorem mp_Text_areCharacters_l2B (N R s : Nat) (r2 : Int64 → Int32 → Int32 → mw_T → mw_X Int32) (h2 : ∀ (x0 : Int64) (x2 : Int32) (x3 : Int32) (t : mw_T), mw_W (mw_d3 mw_eI s) 1 kText_areCharacters (2, [(0, .long x0), (2, .int x2), (3, .int x3)], [], mw_E s t) (r2 x0 x2 x3 t)) : ∀ (x0 : Int64) (x2 : Int32) (x3 : Int32) (t : mw_T), mw_W (mw_d3 mw_eI s) 1 kText_areCharacters (2, [(0, .long x0), (2, .int x2), (3, .int x3)], [], mw_E s t) (mf_Text_areCharacters_l2B N R r2 x0 x2 x3 t) := by
  intro x0 x2 x3 t
  unfold mf_Text_areCharacters_l2B
  exact (mw_go 2 (4, [(0, .long x0), (2, .int x2), (3, .int x3)], [.int x2, .int x3], mw_E s t) (by with_unfolding_all rfl) (mw_l2 7 36 (by with_unfolding_all rfl) (mw_go 2 (9, [(0, .long x0), (2, .int x2), (3, .int x3)], [.int x3, .long x0], mw_E s t) (by with_unfolding_all rfl) (mw_cIs 12 [.long x0, .int x3] [] (by with_unfolding_all rfl) (mp_Sieve_byteOf N R s x0 x3 t) (by omega) (fun v1 t1 => (mw_go 3 (18, [(4, .int v1), (0, .long x0), (2, .int x2), (3, .int x3)], [.int (32 : Int32), .int v1], mw_E s t1) (by with_unfolding_all rfl) (mw_l2 28 21 (by with_unfolding_all rfl) (mw_go 1 (29, [(4, .int v1), (0, .long x0), (2, .int x2), (3, .int x3)], [.int (0 : Int32)], mw_E s t1) (by with_unfolding_all rfl) (mw_ri (by with_unfolding_all rfl) (by with_unfolding_all rfl) rfl)) (mw_go 2 (25, [(4, .int v1), (0, .long x0), (2, .int x2), (3, .int x3)], [.int (126 : Int32), .int v1], mw_E s t1) (by with_unfolding_all rfl) (mw_g2 28 30 (by with_unfolding_all rfl) (mw_go 1 (29, [(4, .int v1), (0, .long x0), (2, .int x2), (3, .int x3)], [.int (0 : Int32)], mw_E s t1) (by with_unfolding_all rfl) (mw_ri (by with_unfolding_all rfl) (by with_unfolding_all rfl) rfl)) (mw_go 2 (2, [(3, .int (x3 + Int32.ofInt (1))), (4, .int v1), (0, .long x0), (2, .int x2)], [], mw_E s t1) (by with_unfolding_all rfl) (mw_jp [(0, .long x0), (2, .int x2), (3, .int (x3 + Int32.ofInt (1)))] (by with_unfolding_all rfl) (by with_unfolding_all rfl) (by with_unfolding_all rfl) (h2 x0 x2 (x3 + Int32.ofInt (1)) t1)))))))))) (mw_go 1 (37, [(0, .long x0), (2, .int x2), (3, .int x3)], [.int (1 : Int32)], mw_E s t) (by with_unfolding_all rfl) (mw_ri (by with_unfolding_all rfl) (by with_unfolding_all rfl) rfl))))
set_option maxRecDepth 100000 in
theorem mp_Text_areCharacters_l2 (N R s : Nat) : ∀ (n : Nat), ∀ (x0 : Int64) (x2 : Int32) (x3 : Int32) (t : mw_T), mw_W (mw_d3 mw_eI s) 1 kText_areCharacters (2, [(0, .long x0), (2, .int x2), (3, .int x3)], [], mw_E s t) (mf_Text_areCharacters_l2 N R n x0 x2 x3 t) := by
  intro n
  induction n with
  | zero => intros; exact mw_no
  | succ n ih => exact mp_Text_areCharacters_l2B N R s (mf_Text_areCharacters_l2 N R n) ih
set_option maxRecDepth 100000 in
theorem mp_Text_areCharacters (N R s : Nat) : ∀ (x0 : Int64) (x2 : Int32) (t : mw_T), mw_W (mw_d3 mw_eI s) 1 kText_areCharacters (0, [(0, .long x0), (2, .int x2)], [], mw_E s t) (mf_Text_areCharacters N R x0 x2 t) := by
  intro x0 x2 t
  unfold mf_Text_areCharacters
  exact (mw_go 2 (2, [(3, .int (0 : Int32)), (0, .long x0), (2, .int x2)], [], mw_E s t) (by with_unfolding_all rfl) (mw_jp [(0, .long x0), (2, .int x2), (3, .int (0 : Int32))] (by with_unfolding_all rfl) (by with_unfolding_all rfl) (by with_unfolding_all rfl) (mp_Text_areCharacters_l2 N R s N x0 x2 (0 : Int32) t)))
theorem mg_Text_areCharacters_l2B (N R : Nat) (r2 : Int64 → Int32 → Int32 → mw_T → mw_X Int32) (g2 : ∀ (x0 : Int64) (x2 : Int32) (x3 : Int32) (t : mw_T), mw_F [] 0 [] t (r2 x0 x2 x3 t)) : ∀ (x0 : Int64) (x2 : Int32) (x3 : Int32) (t : mw_T), mw_F [] 0 [] t (mf_Text_areCharacters_l2B N R r2 x0 x2 x3 t) := by
  intro x0 x2 x3 t
  exact (mg_if (mg_bs mg_rf (mg_Sieve_byteOf N R x0 x3 t) (mw_lq0 (by rfl)) (fun v1 t1 e1 => (mg_if (mg_rt e1) (mg_if (mg_rt e1) (mg_jp e1 (g2 x0 x2 (x3 + Int32.ofInt (1)) t1)))))) (mg_rt mg_rf))
theorem mg_Text_areCharacters_l2 (N R : Nat) : ∀ (n : Nat), ∀ (x0 : Int64) (x2 : Int32) (x3 : Int32) (t : mw_T), mw_F [] 0 [] t (mf_Text_areCharacters_l2 N R n x0 x2 x3 t) := by
  intro n
  induction n with
  | zero => intros; exact mg_no
  | succ n ih => exact mg_Text_areCharacters_l2B N R (mf_Text_areCharacters_l2 N R n) ih
theorem mg_Text_areCharacters (N R : Nat) : ∀ (x0 : Int64) (x2 : Int32) (t : mw_T), mw_F [] 0 [] t (mf_Text_areCharacters N R x0 x2 t) := by
  intro x0 x2 t
  exact (mg_jp mg_rf (mg_Text_areCharacters_l2 N R N x0 x2 (0 : Int32) t))
def mf_Text_hasRoom (N R : Nat) (x1 : Int32) (t : mw_T) : mw_X Int32 :=
  (if (160 : Int32) < ((t.1 1 1) + x1) then (some (.inl (0 : Int32), t)) else (some (.inl (1 : Int32), t)))
set_option maxRecDepth 100000 in
theorem mp_Text_hasRoom (N R s : Nat) : ∀ (x1 : Int32) (t : mw_T), mw_W (mw_d3 mw_eI s) 0 kText_hasRoom (0, [(0, .ref 1), (1, .int x1)], [], mw_E s t) (mf_Text_hasRoom N R x1 t) := by
  intro x1 t
  unfold mf_Text_hasRoom
  exact (mw_go 5 (9, [(0, .ref 1), (1, .int x1)], [.int (160 : Int32), .int ((t.1 1 1) + x1)], mw_E s t) (by with_unfolding_all rfl) (mw_g2 16 12 (by with_unfolding_all rfl) (mw_go 1 (17, [(0, .ref 1), (1, .int x1)], [.int (0 : Int32)], mw_E s t) (by with_unfolding_all rfl) (mw_ri (by with_unfolding_all rfl) (by with_unfolding_all rfl) rfl)) (mw_go 2 (17, [(0, .ref 1), (1, .int x1)], [.int (1 : Int32)], mw_E s t) (by with_unfolding_all rfl) (mw_ri (by with_unfolding_all rfl) (by with_unfolding_all rfl) rfl))))
theorem mg_Text_hasRoom (N R : Nat) : ∀ (x1 : Int32) (t : mw_T), mw_F [] 0 [] t (mf_Text_hasRoom N R x1 t) := by
  intro x1 t
  exact (mg_if (mg_rt mg_rf) (mg_rt mg_rf))
def mf_Text_append_l3B (N R : Nat) (r3 : Int64 → Int32 → Int32 → mw_T → mw_X Unit) (x1 : Int64) (x3 : Int32) (x4 : Int32) (t : mw_T) : mw_X Unit :=
  (if x4 < x3 then (mw_bs (mf_Sieve_byteOf N R x1 x4 t) (fun v1 t1 => (if mj_in ((t.1 1 1) + x4) 160 = true then (r3 x1 x3 (x4 + Int32.ofInt (1)) (mw_wi t1 2 ((t.1 1 1) + x4).toNatClampNeg (vp_nar .byte v1.toInt8.toInt32))) else none))) else (some (.inl (), (mw_wi t 1 1 ((t.1 1 1) + x3)))))
def mf_Text_append_l3 (N R : Nat) : Nat → Int64 → Int32 → Int32 → mw_T → mw_X Unit
  | 0 => fun _ _ _ _ => none
  | n + 1 => fun  x1 x3 x4 t => mf_Text_append_l3B N R (mf_Text_append_l3 N R n)  x1 x3 x4 t
def mf_Text_append (N R : Nat) (x1 : Int64) (x3 : Int32) (t : mw_T) : mw_X Unit :=
  (mf_Text_append_l3 N R N x1 x3 (0 : Int32) t)
set_option maxRecDepth 100000 in
theorem mp_Text_append_l3B (N R s : Nat) (r3 : Int64 → Int32 → Int32 → mw_T → mw_X Unit) (h3 : ∀ (x1 : Int64) (x3 : Int32) (x4 : Int32) (t : mw_T), mw_W (mw_d3 mw_eV s) 1 kText_append (3, [(0, .ref 1), (1, .long x1), (3, .int x3), (4, .int x4)], [], mw_E s t) (r3 x1 x3 x4 t)) : ∀ (x1 : Int64) (x3 : Int32) (x4 : Int32) (t : mw_T), mw_W (mw_d3 mw_eV s) 1 kText_append (3, [(0, .ref 1), (1, .long x1), (3, .int x3), (4, .int x4)], [], mw_E s t) (mf_Text_append_l3B N R r3 x1 x3 x4 t) := by
  intro x1 x3 x4 t
  unfold mf_Text_append_l3B
  exact (mw_go 2 (6, [(0, .ref 1), (1, .long x1), (3, .int x3), (4, .int x4)], [.int x3, .int x4], mw_E s t) (by with_unfolding_all rfl) (mw_l2 9 34 (by with_unfolding_all rfl) (mw_go 8 (23, [(0, .ref 1), (1, .long x1), (3, .int x3), (4, .int x4)], [.int x4, .long x1, .int ((t.1 1 1) + x4), .ref 2], mw_E s t) (by with_unfolding_all rfl) (mw_cIs 26 [.long x1, .int x4] [.int ((t.1 1 1) + x4), .ref 2] (by with_unfolding_all rfl) (mp_Sieve_byteOf N R s x1 x4 t) (by omega) (fun v1 t1 => (mw_go 1 (27, [(0, .ref 1), (1, .long x1), (3, .int x3), (4, .int x4)], [.int v1.toInt8.toInt32, .int ((t.1 1 1) + x4), .ref 2], mw_E s t1) (by with_unfolding_all rfl) (mw_bs' 28 (by with_unfolding_all rfl) (by with_unfolding_all rfl) (by with_unfolding_all rfl) (mw_go 2 (3, [(4, .int (x4 + Int32.ofInt (1))), (0, .ref 1), (1, .long x1), (3, .int x3)], [], mw_E s (mw_wi t1 2 ((t.1 1 1) + x4).toNatClampNeg (vp_nar .byte v1.toInt8.toInt32))) (by with_unfolding_all rfl) (mw_jp [(0, .ref 1), (1, .long x1), (3, .int x3), (4, .int (x4 + Int32.ofInt (1)))] (by with_unfolding_all rfl) (by with_unfolding_all rfl) (by with_unfolding_all rfl) (h3 x1 x3 (x4 + Int32.ofInt (1)) (mw_wi t1 2 ((t.1 1 1) + x4).toNatClampNeg (vp_nar .byte v1.toInt8.toInt32)))))))))) (mw_go 6 (44, [(0, .ref 1), (1, .long x1), (3, .int x3), (4, .int x4)], [], mw_E s (mw_wi t 1 1 ((t.1 1 1) + x3))) (by with_unfolding_all rfl) (mw_rv (by with_unfolding_all rfl) (by with_unfolding_all rfl) rfl))))
set_option maxRecDepth 100000 in
theorem mp_Text_append_l3 (N R s : Nat) : ∀ (n : Nat), ∀ (x1 : Int64) (x3 : Int32) (x4 : Int32) (t : mw_T), mw_W (mw_d3 mw_eV s) 1 kText_append (3, [(0, .ref 1), (1, .long x1), (3, .int x3), (4, .int x4)], [], mw_E s t) (mf_Text_append_l3 N R n x1 x3 x4 t) := by
  intro n
  induction n with
  | zero => intros; exact mw_no
  | succ n ih => exact mp_Text_append_l3B N R s (mf_Text_append_l3 N R n) ih
set_option maxRecDepth 100000 in
theorem mp_Text_append (N R s : Nat) : ∀ (x1 : Int64) (x3 : Int32) (t : mw_T), mw_W (mw_d3 mw_eV s) 1 kText_append (0, [(0, .ref 1), (1, .long x1), (3, .int x3)], [], mw_E s t) (mf_Text_append N R x1 x3 t) := by
  intro x1 x3 t
  unfold mf_Text_append
  exact (mw_go 2 (3, [(4, .int (0 : Int32)), (0, .ref 1), (1, .long x1), (3, .int x3)], [], mw_E s t) (by with_unfolding_all rfl) (mw_jp [(0, .ref 1), (1, .long x1), (3, .int x3), (4, .int (0 : Int32))] (by with_unfolding_all rfl) (by with_unfolding_all rfl) (by with_unfolding_all rfl) (mp_Text_append_l3 N R s N x1 x3 (0 : Int32) t)))
theorem mg_Text_append_l3B (N R : Nat) (r3 : Int64 → Int32 → Int32 → mw_T → mw_X Unit) (g3 : ∀ (x1 : Int64) (x3 : Int32) (x4 : Int32) (t : mw_T), mw_F [] 0 [(1, 1), (2, 1000)] t (r3 x1 x3 x4 t)) : ∀ (x1 : Int64) (x3 : Int32) (x4 : Int32) (t : mw_T), mw_F [] 0 [(1, 1), (2, 1000)] t (mf_Text_append_l3B N R r3 x1 x3 x4 t) := by
  intro x1 x3 x4 t
  exact (mg_if (mg_bs mg_rf (mg_Sieve_byteOf N R x1 x4 t) (mw_lq0 (by rfl)) (fun v1 t1 e1 => (mg_gd (mg_jp (mg_wiB 2 1000 (by rfl) (Or.inl rfl) e1) (g3 x1 x3 (x4 + Int32.ofInt (1)) (mw_wi t1 2 ((t.1 1 1) + x4).toNatClampNeg (vp_nar .byte v1.toInt8.toInt32))))))) (mg_rt (mg_wiB 1 1 (by rfl) (Or.inr rfl) mg_rf)))
theorem mg_Text_append_l3 (N R : Nat) : ∀ (n : Nat), ∀ (x1 : Int64) (x3 : Int32) (x4 : Int32) (t : mw_T), mw_F [] 0 [(1, 1), (2, 1000)] t (mf_Text_append_l3 N R n x1 x3 x4 t) := by
  intro n
  induction n with
  | zero => intros; exact mg_no
  | succ n ih => exact mg_Text_append_l3B N R (mf_Text_append_l3 N R n) ih
theorem mg_Text_append (N R : Nat) : ∀ (x1 : Int64) (x3 : Int32) (t : mw_T), mw_F [] 0 [(1, 1), (2, 1000)] t (mf_Text_append N R x1 x3 t) := by
  intro x1 x3 t
  exact (mg_jp mg_rf (mg_Text_append_l3 N R N x1 x3 (0 : Int32) t))
def mf_Text_length (N R : Nat) (t : mw_T) : mw_X Int32 :=
  (some (.inl (t.1 1 1), t))
set_option maxRecDepth 100000 in
theorem mp_Text_length (N R s : Nat) : ∀ (t : mw_T), mw_W (mw_d3 mw_eI s) 0 kText_length (0, [(0, .ref 1)], [], mw_E s t) (mf_Text_length N R t) := by
  intro t
  unfold mf_Text_length
  exact (mw_go 2 (4, [(0, .ref 1)], [.int (t.1 1 1)], mw_E s t) (by with_unfolding_all rfl) (mw_ri (by with_unfolding_all rfl) (by with_unfolding_all rfl) rfl))
theorem mg_Text_length (N R : Nat) : ∀ (t : mw_T), mw_F [] 0 [] t (mf_Text_length N R t) := by
  intro t
  exact (mg_rt mg_rf)
def mf_Sieve_type (N R : Nat) (o : Nat) (x1 : Int64) (x3 : Int32) (t : mw_T) : mw_X Int32 :=
  (mw_bs (mf_Sieve_isByteCount N R x3 t) (fun v1 t1 => (if v1 = 0 then (some (.inr 0, (mw_we t1))) else (mw_bs (mf_Text_areCharacters N R x1 x3 t1) (fun v2 t2 => (if v2 = 0 then (some (.inr 0, (mw_we t2))) else (mw_b (mf_Text_hasRoom N R x3 t2) (fun v3 t3 => (if v3 = 0 then (some (.inr 1, (mw_we t3))) else (mw_b (mf_Text_append N R x1 x3 t3) (fun _ t4 => (mw_b (mf_Text_length N R t4) (fun v5 t5 => (some (.inl v5, t5)))))))))))))))
set_option maxRecDepth 100000 in
theorem mp_Sieve_type (N R : Nat) (o : Nat) (ho : o = 0 ∨ o = 21) : ∀ (x1 : Int64) (x3 : Int32) (t : mw_T), mw_W (mw_d3 mw_eI o) 6 kSieve_type (0, [(0, .ref 0), (1, .long x1), (3, .int x3)], [], mw_E o t) (mf_Sieve_type N R o x1 x3 t) := by
  intro x1 x3 t
  rcases ho with rfl | rfl
  · unfold mf_Sieve_type
    exact (mw_go 1 (1, [(0, .ref 0), (1, .long x1), (3, .int x3)], [.int x3], mw_E 0 t) (by with_unfolding_all rfl) (mw_cIs 4 [.int x3] [] (by with_unfolding_all rfl) (mp_Sieve_isByteCount N R 0 x3 t) (by omega) (fun v1 t1 => (mw_e1 15 7 (by with_unfolding_all rfl) (mw_th (by with_unfolding_all rfl) (by with_unfolding_all rfl) (by with_unfolding_all rfl) (by omega) (mw_te _ _ _)) (mw_go 2 (9, [(0, .ref 0), (1, .long x1), (3, .int x3)], [.int x3, .long x1], mw_E 0 t1) (by with_unfolding_all rfl) (mw_cIs 12 [.long x1, .int x3] [] (by with_unfolding_all rfl) (mp_Text_areCharacters N R 0 x1 x3 t1) (by omega) (fun v2 t2 => (mw_e1 15 23 (by with_unfolding_all rfl) (mw_th (by with_unfolding_all rfl) (by with_unfolding_all rfl) (by with_unfolding_all rfl) (by omega) (mw_te _ _ _)) (mw_go 3 (28, [(0, .ref 0), (1, .long x1), (3, .int x3)], [.int x3, .ref 1], mw_E 0 t2) (by with_unfolding_all rfl) (mw_cI 31 [.ref 1, .int x3] [] (by with_unfolding_all rfl) (mp_Text_hasRoom N R 0 x3 t2) (by omega) (fun v3 t3 => (mw_e1 34 42 (by with_unfolding_all rfl) (mw_th (by with_unfolding_all rfl) (by with_unfolding_all rfl) (by with_unfolding_all rfl) (by omega) (mw_te _ _ _)) (mw_go 4 (48, [(0, .ref 0), (1, .long x1), (3, .int x3)], [.int x3, .long x1, .ref 1], mw_E 0 t3) (by with_unfolding_all rfl) (mw_cV 51 [.ref 1, .long x1, .int x3] [] (by with_unfolding_all rfl) (mp_Text_append N R 0 x1 x3 t3) (by omega) (fun _ t4 => (mw_go 2 (55, [(0, .ref 0), (1, .long x1), (3, .int x3)], [.ref 1], mw_E 0 t4) (by with_unfolding_all rfl) (mw_cI 58 [.ref 1] [] (by with_unfolding_all rfl) (mp_Text_length N R 0 t4) (by omega) (fun v5 t5 => (mw_ri (by with_unfolding_all rfl) (by with_unfolding_all rfl) rfl)))))))))))))))))))
  · unfold mf_Sieve_type
    exact (mw_go 1 (1, [(0, .ref 0), (1, .long x1), (3, .int x3)], [.int x3], mw_E 21 t) (by with_unfolding_all rfl) (mw_cIs 4 [.int x3] [] (by with_unfolding_all rfl) (mp_Sieve_isByteCount N R 21 x3 t) (by omega) (fun v1 t1 => (mw_e1 15 7 (by with_unfolding_all rfl) (mw_th (by with_unfolding_all rfl) (by with_unfolding_all rfl) (by with_unfolding_all rfl) (by omega) (mw_te _ _ _)) (mw_go 2 (9, [(0, .ref 0), (1, .long x1), (3, .int x3)], [.int x3, .long x1], mw_E 21 t1) (by with_unfolding_all rfl) (mw_cIs 12 [.long x1, .int x3] [] (by with_unfolding_all rfl) (mp_Text_areCharacters N R 21 x1 x3 t1) (by omega) (fun v2 t2 => (mw_e1 15 23 (by with_unfolding_all rfl) (mw_th (by with_unfolding_all rfl) (by with_unfolding_all rfl) (by with_unfolding_all rfl) (by omega) (mw_te _ _ _)) (mw_go 3 (28, [(0, .ref 0), (1, .long x1), (3, .int x3)], [.int x3, .ref 1], mw_E 21 t2) (by with_unfolding_all rfl) (mw_cI 31 [.ref 1, .int x3] [] (by with_unfolding_all rfl) (mp_Text_hasRoom N R 21 x3 t2) (by omega) (fun v3 t3 => (mw_e1 34 42 (by with_unfolding_all rfl) (mw_th (by with_unfolding_all rfl) (by with_unfolding_all rfl) (by with_unfolding_all rfl) (by omega) (mw_te _ _ _)) (mw_go 4 (48, [(0, .ref 0), (1, .long x1), (3, .int x3)], [.int x3, .long x1, .ref 1], mw_E 21 t3) (by with_unfolding_all rfl) (mw_cV 51 [.ref 1, .long x1, .int x3] [] (by with_unfolding_all rfl) (mp_Text_append N R 21 x1 x3 t3) (by omega) (fun _ t4 => (mw_go 2 (55, [(0, .ref 0), (1, .long x1), (3, .int x3)], [.ref 1], mw_E 21 t4) (by with_unfolding_all rfl) (mw_cI 58 [.ref 1] [] (by with_unfolding_all rfl) (mp_Text_length N R 21 t4) (by omega) (fun v5 t5 => (mw_ri (by with_unfolding_all rfl) (by with_unfolding_all rfl) rfl)))))))))))))))))))
theorem mg_Sieve_type (N R : Nat) (o : Nat) : ∀ (x1 : Int64) (x3 : Int32) (t : mw_T), mw_F [] o [(1, 1), (2, 1000)] t (mf_Sieve_type N R o x1 x3 t) := by
  intro x1 x3 t
  exact (mg_bs mg_rf (mg_Sieve_isByteCount N R x3 t) (mw_lq0 (by rfl)) (fun v1 t1 e1 => (mg_if (mg_th e1) (mg_bs e1 (mg_Text_areCharacters N R x1 x3 t1) (mw_lq0 (by rfl)) (fun v2 t2 e2 => (mg_if (mg_th e2) (mg_b e2 (mg_Text_hasRoom N R x3 t2) (mw_lq0 (by rfl)) (fun v3 t3 e3 => (mg_if (mg_th e3) (mg_b e3 (mg_Text_append N R x1 x3 t3) (mw_lq0 (by rfl)) (fun _ t4 e4 => (mg_b e4 (mg_Text_length N R t4) (mw_lq0 (by rfl)) (fun v5 t5 e5 => (mg_rt e5))))))))))))))
def mf_Law_type (N R : Nat) (o : Nat) (x1 : Int64) (x3 : Int32) (t : mw_T) : mw_X Int32 :=
  (mw_t (mf_Sieve_type N R o x1 x3 t) (fun v1 t1 => (if mj_in (0 : Int32) 1 = true then (some (.inl (0 : Int32), (mw_wl t1 85 (0 : Int32).toNatClampNeg v1.toInt64))) else none)) (fun q t1 => (if q = 0 then (some (.inl (1 : Int32), t1)) else (if q = 1 then (some (.inl (2 : Int32), t1)) else none))))
set_option maxRecDepth 100000 in
theorem mp_Law_type (N R : Nat) (o : Nat) (ho : o = 0 ∨ o = 21) : ∀ (x1 : Int64) (x3 : Int32) (t : mw_T), mw_W (mw_d3 mw_eI o) 7 kLaw_type (0, [(0, .ref 0), (1, .long x1), (3, .int x3), (4, .ref 85)], [], mw_E o t) (mf_Law_type N R o x1 x3 t) := by
  intro x1 x3 t
  rcases ho with rfl | rfl
  · unfold mf_Law_type
    exact (mw_go 5 (6, [(0, .ref 0), (1, .long x1), (3, .int x3), (4, .ref 85)], [.int x3, .long x1, .ref 0, .int (0 : Int32), .ref 85], mw_E 0 t) (by with_unfolding_all rfl) (mw_T3I 9 [.ref 0, .long x1, .int x3] [.int (0 : Int32), .ref 85] (by with_unfolding_all rfl) (mp_Sieve_type N R 0 (Or.inl rfl) x1 x3 t) (by omega) (fun v1 t1 => (mw_go 1 (10, [(0, .ref 0), (1, .long x1), (3, .int x3), (4, .ref 85)], [.long v1.toInt64, .int (0 : Int32), .ref 85], mw_E 0 t1) (by with_unfolding_all rfl) (mw_ls 11 (by with_unfolding_all rfl) (by with_unfolding_all rfl) (by with_unfolding_all rfl) (mw_go 2 (23, [(0, .ref 0), (1, .long x1), (3, .int x3), (4, .ref 85)], [.int (0 : Int32)], mw_E 0 (mw_wl t1 85 (0 : Int32).toNatClampNeg v1.toInt64)) (by with_unfolding_all rfl) (mw_ri (by with_unfolding_all rfl) (by with_unfolding_all rfl) rfl))))) (fun q t1 => (mw_hq 0 14 [(0, .ref 0), (1, .long x1), (3, .int x3), (4, .ref 85)] (by with_unfolding_all rfl) (by with_unfolding_all rfl) (mw_go 2 (17, [(5, .ref 1000000), (0, .ref 0), (1, .long x1), (3, .int x3), (4, .ref 85)], [.int (1 : Int32)], mw_E 0 t1) (by with_unfolding_all rfl) (mw_ri (by with_unfolding_all rfl) (by with_unfolding_all rfl) rfl)) (mw_hq 1 18 [(0, .ref 0), (1, .long x1), (3, .int x3), (4, .ref 85)] (by with_unfolding_all rfl) (by with_unfolding_all rfl) (mw_go 2 (21, [(5, .ref 1000000), (0, .ref 0), (1, .long x1), (3, .int x3), (4, .ref 85)], [.int (2 : Int32)], mw_E 0 t1) (by with_unfolding_all rfl) (mw_ri (by with_unfolding_all rfl) (by with_unfolding_all rfl) rfl)) mw_hn)))))
  · unfold mf_Law_type
    exact (mw_go 5 (6, [(0, .ref 0), (1, .long x1), (3, .int x3), (4, .ref 85)], [.int x3, .long x1, .ref 0, .int (0 : Int32), .ref 85], mw_E 21 t) (by with_unfolding_all rfl) (mw_T3I 9 [.ref 0, .long x1, .int x3] [.int (0 : Int32), .ref 85] (by with_unfolding_all rfl) (mp_Sieve_type N R 21 (Or.inr rfl) x1 x3 t) (by omega) (fun v1 t1 => (mw_go 1 (10, [(0, .ref 0), (1, .long x1), (3, .int x3), (4, .ref 85)], [.long v1.toInt64, .int (0 : Int32), .ref 85], mw_E 21 t1) (by with_unfolding_all rfl) (mw_ls 11 (by with_unfolding_all rfl) (by with_unfolding_all rfl) (by with_unfolding_all rfl) (mw_go 2 (23, [(0, .ref 0), (1, .long x1), (3, .int x3), (4, .ref 85)], [.int (0 : Int32)], mw_E 21 (mw_wl t1 85 (0 : Int32).toNatClampNeg v1.toInt64)) (by with_unfolding_all rfl) (mw_ri (by with_unfolding_all rfl) (by with_unfolding_all rfl) rfl))))) (fun q t1 => (mw_hq 0 14 [(0, .ref 0), (1, .long x1), (3, .int x3), (4, .ref 85)] (by with_unfolding_all rfl) (by with_unfolding_all rfl) (mw_go 2 (17, [(5, .ref 1000000), (0, .ref 0), (1, .long x1), (3, .int x3), (4, .ref 85)], [.int (1 : Int32)], mw_E 21 t1) (by with_unfolding_all rfl) (mw_ri (by with_unfolding_all rfl) (by with_unfolding_all rfl) rfl)) (mw_hq 1 18 [(0, .ref 0), (1, .long x1), (3, .int x3), (4, .ref 85)] (by with_unfolding_all rfl) (by with_unfolding_all rfl) (mw_go 2 (21, [(5, .ref 1000000), (0, .ref 0), (1, .long x1), (3, .int x3), (4, .ref 85)], [.int (2 : Int32)], mw_E 21 t1) (by with_unfolding_all rfl) (mw_ri (by with_unfolding_all rfl) (by with_unfolding_all rfl) rfl)) mw_hn)))))
def mf_Model_isCharacter (N R : Nat) (x0 : Int64) (t : mw_T) : mw_X Int32 :=
  (if x0 < (32 : Int64) then (some (.inl (0 : Int32), t)) else (if (126 : Int64) < x0 then (some (.inl (0 : Int32), t)) else (some (.inl (1 : Int32), t))))
set_option maxRecDepth 100000 in
theorem mp_Model_isCharacter (N R s : Nat) : ∀ (x0 : Int64) (t : mw_T), mw_W (mw_d3 mw_eI s) 0 kModel_isCharacter (0, [(0, .long x0)], [], mw_E s t) (mf_Model_isCharacter N R x0 t) := by
  intro x0 t
  unfold mf_Model_isCharacter
  exact (mw_go 2 (4, [(0, .long x0)], [.long (32 : Int64), .long x0], mw_E s t) (by with_unfolding_all rfl) (mw_lL 5 20 8 (by with_unfolding_all rfl) (by with_unfolding_all rfl) (mw_go 1 (21, [(0, .long x0)], [.int (0 : Int32)], mw_E s t) (by with_unfolding_all rfl) (mw_ri (by with_unfolding_all rfl) (by with_unfolding_all rfl) rfl)) (mw_go 2 (12, [(0, .long x0)], [.long (126 : Int64), .long x0], mw_E s t) (by with_unfolding_all rfl) (mw_gL 13 20 16 (by with_unfolding_all rfl) (by with_unfolding_all rfl) (mw_go 1 (21, [(0, .long x0)], [.int (0 : Int32)], mw_E s t) (by with_unfolding_all rfl) (mw_ri (by with_unfolding_all rfl) (by with_unfolding_all rfl) rfl)) (mw_go 2 (21, [(0, .long x0)], [.int (1 : Int32)], mw_E s t) (by with_unfolding_all rfl) (mw_ri (by with_unfolding_all rfl) (by with_unfolding_all rfl) rfl))))))
theorem mg_Model_isCharacter (N R : Nat) : ∀ (x0 : Int64) (t : mw_T), mw_F [] 0 [] t (mf_Model_isCharacter N R x0 t) := by
  intro x0 t
  exact (mg_if (mg_rt mg_rf) (mg_if (mg_rt mg_rf) (mg_rt mg_rf)))
def mf_Model_type_b148 (N R : Nat) (y0 : Int32) (y1 : Int32) (t : mw_T) : mw_X Int32 :=
  (if (t.1 49 0) = 0 then (some (.inl (y1 + y0), (mw_wi t 49 1 (y1 + y0)))) else (some (.inl (0 : Int32), (mw_wi t 49 1 (y1 + y0)))))
def mf_Model_type_b131 (N R : Nat) (x3 : Int32) (t : mw_T) : mw_X Int32 :=
  (if (t.1 49 0) = 0 then (mf_Model_type_b148 N R x3 (t.1 49 1) t) else (mf_Model_type_b148 N R (0 : Int32) (t.1 49 1) t))
def mf_Model_type_l87B (N R : Nat) (r87 : Int64 → Int32 → Int32 → mw_T → mw_X Int32) (x1 : Int64) (x3 : Int32) (x5 : Int32) (t : mw_T) : mw_X Int32 :=
  (if x5 < x3 then (if (t.1 49 0) = 0 then (if mj_in ((t.1 49 1) + x5) 160 = true then (r87 x1 x3 (x5 + Int32.ofInt (1)) (mw_wi t 50 ((t.1 49 1) + x5).toNatClampNeg (vp_nar .char (((x1 >>> (((8 : Int32) * x5).toInt64 &&& 63)) &&& (255 : Int64)).toInt32.toUInt32 % 65536).toInt32))) else none) else (mf_Model_type_b131 N R x3 t)) else (mf_Model_type_b131 N R x3 t))
def mf_Model_type_l87 (N R : Nat) : Nat → Int64 → Int32 → Int32 → mw_T → mw_X Int32
  | 0 => fun _ _ _ _ => none
  | n + 1 => fun  x1 x3 x5 t => mf_Model_type_l87B N R (mf_Model_type_l87 N R n)  x1 x3 x5 t
def mf_Model_type_b81 (N R : Nat) (x1 : Int64) (x3 : Int32) (y0 : Int32) (t : mw_T) : mw_X Int32 :=
  (mf_Model_type_l87 N R N x1 x3 (0 : Int32) (mw_wi t 49 0 y0))
def mf_Model_type_b54 (N R : Nat) (x1 : Int64) (x3 : Int32) (x4 : Int32) (t : mw_T) : mw_X Int32 :=
  (if x4 = 0 then (mf_Model_type_b81 N R x1 x3 (1 : Int32) t) else (if (160 : Int32) < ((t.1 49 1) + x3) then (mf_Model_type_b81 N R x1 x3 (2 : Int32) t) else (mf_Model_type_b81 N R x1 x3 (0 : Int32) t)))
def mf_Model_type_l21B (N R : Nat) (r21 : Int64 → Int32 → Int32 → Int32 → mw_T → mw_X Int32) (x1 : Int64) (x3 : Int32) (x4 : Int32) (x5 : Int32) (t : mw_T) : mw_X Int32 :=
  (if x5 < x3 then (if x4 = 0 then (mf_Model_type_b54 N R x1 x3 x4 t) else (mw_bs (mf_Model_isCharacter N R ((x1 >>> (((8 : Int32) * x5).toInt64 &&& 63)) &&& (255 : Int64)) t) (fun v1 t1 => (r21 x1 x3 v1 (x5 + Int32.ofInt (1)) t1)))) else (mf_Model_type_b54 N R x1 x3 x4 t))
def mf_Model_type_l21 (N R : Nat) : Nat → Int64 → Int32 → Int32 → Int32 → mw_T → mw_X Int32
  | 0 => fun _ _ _ _ _ => none
  | n + 1 => fun  x1 x3 x4 x5 t => mf_Model_type_l21B N R (mf_Model_type_l21 N R n)  x1 x3 x4 x5 t
def mf_Model_type_b16 (N R : Nat) (x1 : Int64) (x3 : Int32) (y0 : Int32) (t : mw_T) : mw_X Int32 :=
  (mf_Model_type_l21 N R N x1 x3 y0 (0 : Int32) t)
def mf_Model_type_b15 (N R : Nat) (x1 : Int64) (x3 : Int32) (t : mw_T) : mw_X Int32 :=
  (mf_Model_type_b16 N R x1 x3 (0 : Int32) t)
def mf_Model_type (N R : Nat) (x1 : Int64) (x3 : Int32) (t : mw_T) : mw_X Int32 :=
  (if x3 < (1 : Int32) then (mf_Model_type_b15 N R x1 x3 t) else (if (8 : Int32) < x3 then (mf_Model_type_b15 N R x1 x3 t) else (mf_Model_type_b16 N R x1 x3 (1 : Int32) t)))
set_option maxRecDepth 100000 in
theorem mp_Model_type_b148 (N R s : Nat) : ∀ (y0 : Int32) (y1 : Int32) (t : mw_T), mw_W (mw_d3 mw_eI s) 1 kModel_type (148, [(0, .ref 49)], [.int y0, .int y1, .ref 49], mw_E s t) (mf_Model_type_b148 N R y0 y1 t) := by
  intro y0 y1 t
  unfold mf_Model_type_b148
  exact (mw_go 4 (156, [(0, .ref 49)], [.int (t.1 49 0)], mw_E s (mw_wi t 49 1 (y1 + y0))) (by with_unfolding_all rfl) (mw_e1 159 166 (by with_unfolding_all rfl) (mw_go 3 (167, [(0, .ref 49)], [.int (y1 + y0)], mw_E s (mw_wi t 49 1 (y1 + y0))) (by with_unfolding_all rfl) (mw_ri (by with_unfolding_all rfl) (by with_unfolding_all rfl) rfl)) (mw_go 1 (167, [(0, .ref 49)], [.int (0 : Int32)], mw_E s (mw_wi t 49 1 (y1 + y0))) (by with_unfolding_all rfl) (mw_ri (by with_unfolding_all rfl) (by with_unfolding_all rfl) rfl))))
set_option maxRecDepth 100000 in
theorem mp_Model_type_b131 (N R s : Nat) : ∀ (x3 : Int32) (t : mw_T), mw_W (mw_d3 mw_eI s) 1 kModel_type (131, [(0, .ref 49), (3, .int x3)], [], mw_E s t) (mf_Model_type_b131 N R x3 t) := by
  intro x3 t
  unfold mf_Model_type_b131
  exact (mw_go 5 (140, [(0, .ref 49), (3, .int x3)], [.int (t.1 49 0), .int (t.1 49 1), .ref 49], mw_E s t) (by with_unfolding_all rfl) (mw_e1 143 147 (by with_unfolding_all rfl) (mw_go 2 (148, [(0, .ref 49), (3, .int x3)], [.int x3, .int (t.1 49 1), .ref 49], mw_E s t) (by with_unfolding_all rfl) (mw_jp [(0, .ref 49)] (by with_unfolding_all rfl) (by with_unfolding_all rfl) (by with_unfolding_all rfl) (mp_Model_type_b148 N R s x3 (t.1 49 1) t))) (mw_go 1 (148, [(0, .ref 49), (3, .int x3)], [.int (0 : Int32), .int (t.1 49 1), .ref 49], mw_E s t) (by with_unfolding_all rfl) (mw_jp [(0, .ref 49)] (by with_unfolding_all rfl) (by with_unfolding_all rfl) (by with_unfolding_all rfl) (mp_Model_type_b148 N R s (0 : Int32) (t.1 49 1) t)))))
set_option maxRecDepth 100000 in
theorem mp_Model_type_l87B (N R s : Nat) (r87 : Int64 → Int32 → Int32 → mw_T → mw_X Int32) (h87 : ∀ (x1 : Int64) (x3 : Int32) (x5 : Int32) (t : mw_T), mw_W (mw_d3 mw_eI s) 1 kModel_type (87, [(0, .ref 49), (1, .long x1), (3, .int x3), (5, .int x5)], [], mw_E s t) (r87 x1 x3 x5 t)) : ∀ (x1 : Int64) (x3 : Int32) (x5 : Int32) (t : mw_T), mw_W (mw_d3 mw_eI s) 1 kModel_type (87, [(0, .ref 49), (1, .long x1), (3, .int x3), (5, .int x5)], [], mw_E s t) (mf_Model_type_l87B N R r87 x1 x3 x5 t) := by
  intro x1 x3 x5 t
  unfold mf_Model_type_l87B
  exact (mw_go 2 (90, [(0, .ref 49), (1, .long x1), (3, .int x3), (5, .int x5)], [.int x3, .int x5], mw_E s t) (by with_unfolding_all rfl) (mw_l2 93 131 (by with_unfolding_all rfl) (mw_go 2 (97, [(0, .ref 49), (1, .long x1), (3, .int x3), (5, .int x5)], [.int (t.1 49 0)], mw_E s t) (by with_unfolding_all rfl) (mw_e1 100 131 (by with_unfolding_all rfl) (mw_go 15 (124, [(0, .ref 49), (1, .long x1), (3, .int x3), (5, .int x5)], [.int (((x1 >>> (((8 : Int32) * x5).toInt64 &&& 63)) &&& (255 : Int64)).toInt32.toUInt32 % 65536).toInt32, .int ((t.1 49 1) + x5), .ref 50], mw_E s t) (by with_unfolding_all rfl) (mw_cs' 125 (by with_unfolding_all rfl) (by with_unfolding_all rfl) (by with_unfolding_all rfl) (mw_go 2 (87, [(5, .int (x5 + Int32.ofInt (1))), (0, .ref 49), (1, .long x1), (3, .int x3)], [], mw_E s (mw_wi t 50 ((t.1 49 1) + x5).toNatClampNeg (vp_nar .char (((x1 >>> (((8 : Int32) * x5).toInt64 &&& 63)) &&& (255 : Int64)).toInt32.toUInt32 % 65536).toInt32))) (by with_unfolding_all rfl) (mw_jp [(0, .ref 49), (1, .long x1), (3, .int x3), (5, .int (x5 + Int32.ofInt (1)))] (by with_unfolding_all rfl) (by with_unfolding_all rfl) (by with_unfolding_all rfl) (h87 x1 x3 (x5 + Int32.ofInt (1)) (mw_wi t 50 ((t.1 49 1) + x5).toNatClampNeg (vp_nar .char (((x1 >>> (((8 : Int32) * x5).toInt64 &&& 63)) &&& (255 : Int64)).toInt32.toUInt32 % 65536).toInt32))))))) (mw_jp [(0, .ref 49), (3, .int x3)] (by with_unfolding_all rfl) (by with_unfolding_all rfl) (by with_unfolding_all rfl) (mp_Model_type_b131 N R s x3 t)))) (mw_jp [(0, .ref 49), (3, .int x3)] (by with_unfolding_all rfl) (by with_unfolding_all rfl) (by with_unfolding_all rfl) (mp_Model_type_b131 N R s x3 t))))
set_option maxRecDepth 100000 in
theorem mp_Model_type_l87 (N R s : Nat) : ∀ (n : Nat), ∀ (x1 : Int64) (x3 : Int32) (x5 : Int32) (t : mw_T), mw_W (mw_d3 mw_eI s) 1 kModel_type (87, [(0, .ref 49), (1, .long x1), (3, .int x3), (5, .int x5)], [], mw_E s t) (mf_Model_type_l87 N R n x1 x3 x5 t) := by
  intro n
  induction n with
  | zero => intros; exact mw_no
  | succ n ih => exact mp_Model_type_l87B N R s (mf_Model_type_l87 N R n) ih
set_option maxRecDepth 100000 in
theorem mp_Model_type_b81 (N R s : Nat) : ∀ (x1 : Int64) (x3 : Int32) (y0 : Int32) (t : mw_T), mw_W (mw_d3 mw_eI s) 1 kModel_type (81, [(0, .ref 49), (1, .long x1), (3, .int x3)], [.int y0, .ref 49], mw_E s t) (mf_Model_type_b81 N R x1 x3 y0 t) := by
  intro x1 x3 y0 t
  unfold mf_Model_type_b81
  exact (mw_go 3 (87, [(5, .int (0 : Int32)), (0, .ref 49), (1, .long x1), (3, .int x3)], [], mw_E s (mw_wi t 49 0 y0)) (by with_unfolding_all rfl) (mw_jp [(0, .ref 49), (1, .long x1), (3, .int x3), (5, .int (0 : Int32))] (by with_unfolding_all rfl) (by with_unfolding_all rfl) (by with_unfolding_all rfl) (mp_Model_type_l87 N R s N x1 x3 (0 : Int32) (mw_wi t 49 0 y0))))
set_option maxRecDepth 100000 in
theorem mp_Model_type_b54 (N R s : Nat) : ∀ (x1 : Int64) (x3 : Int32) (x4 : Int32) (t : mw_T), mw_W (mw_d3 mw_eI s) 1 kModel_type (54, [(0, .ref 49), (1, .long x1), (3, .int x3), (4, .int x4)], [], mw_E s t) (mf_Model_type_b54 N R x1 x3 x4 t) := by
  intro x1 x3 x4 t
  unfold mf_Model_type_b54
  exact (mw_go 2 (57, [(0, .ref 49), (1, .long x1), (3, .int x3), (4, .int x4)], [.int x4, .ref 49], mw_E s t) (by with_unfolding_all rfl) (mw_e1 60 64 (by with_unfolding_all rfl) (mw_go 2 (81, [(0, .ref 49), (1, .long x1), (3, .int x3), (4, .int x4)], [.int (1 : Int32), .ref 49], mw_E s t) (by with_unfolding_all rfl) (mw_jp [(0, .ref 49), (1, .long x1), (3, .int x3)] (by with_unfolding_all rfl) (by with_unfolding_all rfl) (by with_unfolding_all rfl) (mp_Model_type_b81 N R s x1 x3 (1 : Int32) t))) (mw_go 5 (73, [(0, .ref 49), (1, .long x1), (3, .int x3), (4, .int x4)], [.int (160 : Int32), .int ((t.1 49 1) + x3), .ref 49], mw_E s t) (by with_unfolding_all rfl) (mw_g2 76 80 (by with_unfolding_all rfl) (mw_go 2 (81, [(0, .ref 49), (1, .long x1), (3, .int x3), (4, .int x4)], [.int (2 : Int32), .ref 49], mw_E s t) (by with_unfolding_all rfl) (mw_jp [(0, .ref 49), (1, .long x1), (3, .int x3)] (by with_unfolding_all rfl) (by with_unfolding_all rfl) (by with_unfolding_all rfl) (mp_Model_type_b81 N R s x1 x3 (2 : Int32) t))) (mw_go 1 (81, [(0, .ref 49), (1, .long x1), (3, .int x3), (4, .int x4)], [.int (0 : Int32), .ref 49], mw_E s t) (by with_unfolding_all rfl) (mw_jp [(0, .ref 49), (1, .long x1), (3, .int x3)] (by with_unfolding_all rfl) (by with_unfolding_all rfl) (by with_unfolding_all rfl) (mp_Model_type_b81 N R s x1 x3 (0 : Int32) t)))))))
set_option maxRecDepth 100000 in
theorem mp_Model_type_l21B (N R s : Nat) (r21 : Int64 → Int32 → Int32 → Int32 → mw_T → mw_X Int32) (h21 : ∀ (x1 : Int64) (x3 : Int32) (x4 : Int32) (x5 : Int32) (t : mw_T), mw_W (mw_d3 mw_eI s) 1 kModel_type (21, [(0, .ref 49), (1, .long x1), (3, .int x3), (4, .int x4), (5, .int x5)], [], mw_E s t) (r21 x1 x3 x4 x5 t)) : ∀ (x1 : Int64) (x3 : Int32) (x4 : Int32) (x5 : Int32) (t : mw_T), mw_W (mw_d3 mw_eI s) 1 kModel_type (21, [(0, .ref 49), (1, .long x1), (3, .int x3), (4, .int x4), (5, .int x5)], [], mw_E s t) (mf_Model_type_l21B N R r21 x1 x3 x4 x5 t) := by
  intro x1 x3 x4 x5 t
  unfold mf_Model_type_l21B
  exact (mw_go 2 (24, [(0, .ref 49), (1, .long x1), (3, .int x3), (4, .int x4), (5, .int x5)], [.int x3, .int x5], mw_E s t) (by with_unfolding_all rfl) (mw_l2 27 54 (by with_unfolding_all rfl) (mw_go 1 (29, [(0, .ref 49), (1, .long x1), (3, .int x3), (4, .int x4), (5, .int x5)], [.int x4], mw_E s t) (by with_unfolding_all rfl) (mw_e1 54 32 (by with_unfolding_all rfl) (mw_jp [(0, .ref 49), (1, .long x1), (3, .int x3), (4, .int x4)] (by with_unfolding_all rfl) (by with_unfolding_all rfl) (by with_unfolding_all rfl) (mp_Model_type_b54 N R s x1 x3 x4 t)) (mw_go 7 (43, [(0, .ref 49), (1, .long x1), (3, .int x3), (4, .int x4), (5, .int x5)], [.long ((x1 >>> (((8 : Int32) * x5).toInt64 &&& 63)) &&& (255 : Int64))], mw_E s t) (by with_unfolding_all rfl) (mw_cIs 46 [.long ((x1 >>> (((8 : Int32) * x5).toInt64 &&& 63)) &&& (255 : Int64))] [] (by with_unfolding_all rfl) (mp_Model_isCharacter N R s ((x1 >>> (((8 : Int32) * x5).toInt64 &&& 63)) &&& (255 : Int64)) t) (by omega) (fun v1 t1 => (mw_go 3 (21, [(5, .int (x5 + Int32.ofInt (1))), (4, .int v1), (0, .ref 49), (1, .long x1), (3, .int x3)], [], mw_E s t1) (by with_unfolding_all rfl) (mw_jp [(0, .ref 49), (1, .long x1), (3, .int x3), (4, .int v1), (5, .int (x5 + Int32.ofInt (1)))] (by with_unfolding_all rfl) (by with_unfolding_all rfl) (by with_unfolding_all rfl) (h21 x1 x3 v1 (x5 + Int32.ofInt (1)) t1)))))))) (mw_jp [(0, .ref 49), (1, .long x1), (3, .int x3), (4, .int x4)] (by with_unfolding_all rfl) (by with_unfolding_all rfl) (by with_unfolding_all rfl) (mp_Model_type_b54 N R s x1 x3 x4 t))))
set_option maxRecDepth 100000 in
theorem mp_Model_type_l21 (N R s : Nat) : ∀ (n : Nat), ∀ (x1 : Int64) (x3 : Int32) (x4 : Int32) (x5 : Int32) (t : mw_T), mw_W (mw_d3 mw_eI s) 1 kModel_type (21, [(0, .ref 49), (1, .long x1), (3, .int x3), (4, .int x4), (5, .int x5)], [], mw_E s t) (mf_Model_type_l21 N R n x1 x3 x4 x5 t) := by
  intro n
  induction n with
  | zero => intros; exact mw_no
  | succ n ih => exact mp_Model_type_l21B N R s (mf_Model_type_l21 N R n) ih
set_option maxRecDepth 100000 in
theorem mp_Model_type_b16 (N R s : Nat) : ∀ (x1 : Int64) (x3 : Int32) (y0 : Int32) (t : mw_T), mw_W (mw_d3 mw_eI s) 1 kModel_type (16, [(0, .ref 49), (1, .long x1), (3, .int x3)], [.int y0], mw_E s t) (mf_Model_type_b16 N R x1 x3 y0 t) := by
  intro x1 x3 y0 t
  unfold mf_Model_type_b16
  exact (mw_go 3 (21, [(5, .int (0 : Int32)), (4, .int y0), (0, .ref 49), (1, .long x1), (3, .int x3)], [], mw_E s t) (by with_unfolding_all rfl) (mw_jp [(0, .ref 49), (1, .long x1), (3, .int x3), (4, .int y0), (5, .int (0 : Int32))] (by with_unfolding_all rfl) (by with_unfolding_all rfl) (by with_unfolding_all rfl) (mp_Model_type_l21 N R s N x1 x3 y0 (0 : Int32) t)))
set_option maxRecDepth 100000 in
theorem mp_Model_type_b15 (N R s : Nat) : ∀ (x1 : Int64) (x3 : Int32) (t : mw_T), mw_W (mw_d3 mw_eI s) 1 kModel_type (15, [(0, .ref 49), (1, .long x1), (3, .int x3)], [], mw_E s t) (mf_Model_type_b15 N R x1 x3 t) := by
  intro x1 x3 t
  unfold mf_Model_type_b15
  exact (mw_go 1 (16, [(0, .ref 49), (1, .long x1), (3, .int x3)], [.int (0 : Int32)], mw_E s t) (by with_unfolding_all rfl) (mw_jp [(0, .ref 49), (1, .long x1), (3, .int x3)] (by with_unfolding_all rfl) (by with_unfolding_all rfl) (by with_unfolding_all rfl) (mp_Model_type_b16 N R s x1 x3 (0 : Int32) t)))
set_option maxRecDepth 100000 in
theorem mp_Model_type (N R s : Nat) : ∀ (x1 : Int64) (x3 : Int32) (t : mw_T), mw_W (mw_d3 mw_eI s) 1 kModel_type (0, [(0, .ref 49), (1, .long x1), (3, .int x3)], [], mw_E s t) (mf_Model_type N R x1 x3 t) := by
  intro x1 x3 t
  unfold mf_Model_type
  exact (mw_go 2 (2, [(0, .ref 49), (1, .long x1), (3, .int x3)], [.int (1 : Int32), .int x3], mw_E s t) (by with_unfolding_all rfl) (mw_l2 15 5 (by with_unfolding_all rfl) (mw_jp [(0, .ref 49), (1, .long x1), (3, .int x3)] (by with_unfolding_all rfl) (by with_unfolding_all rfl) (by with_unfolding_all rfl) (mp_Model_type_b15 N R s x1 x3 t)) (mw_go 2 (8, [(0, .ref 49), (1, .long x1), (3, .int x3)], [.int (8 : Int32), .int x3], mw_E s t) (by with_unfolding_all rfl) (mw_g2 15 11 (by with_unfolding_all rfl) (mw_jp [(0, .ref 49), (1, .long x1), (3, .int x3)] (by with_unfolding_all rfl) (by with_unfolding_all rfl) (by with_unfolding_all rfl) (mp_Model_type_b15 N R s x1 x3 t)) (mw_go 2 (16, [(0, .ref 49), (1, .long x1), (3, .int x3)], [.int (1 : Int32)], mw_E s t) (by with_unfolding_all rfl) (mw_jp [(0, .ref 49), (1, .long x1), (3, .int x3)] (by with_unfolding_all rfl) (by with_unfolding_all rfl) (by with_unfolding_all rfl) (mp_Model_type_b16 N R s x1 x3 (1 : Int32) t)))))))
theorem mg_Model_type_b148 (N R : Nat) : ∀ (y0 : Int32) (y1 : Int32) (t : mw_T), mw_F [] 0 [(49, 0), (49, 1), (50, 1000)] t (mf_Model_type_b148 N R y0 y1 t) := by
  intro y0 y1 t
  exact (mg_if (mg_rt (mg_wiB 49 1 (by rfl) (Or.inr rfl) mg_rf)) (mg_rt (mg_wiB 49 1 (by rfl) (Or.inr rfl) mg_rf)))
theorem mg_Model_type_b131 (N R : Nat) : ∀ (x3 : Int32) (t : mw_T), mw_F [] 0 [(49, 0), (49, 1), (50, 1000)] t (mf_Model_type_b131 N R x3 t) := by
  intro x3 t
  exact (mg_if (mg_jp mg_rf (mg_Model_type_b148 N R x3 (t.1 49 1) t)) (mg_jp mg_rf (mg_Model_type_b148 N R (0 : Int32) (t.1 49 1) t)))
theorem mg_Model_type_l87B (N R : Nat) (r87 : Int64 → Int32 → Int32 → mw_T → mw_X Int32) (g87 : ∀ (x1 : Int64) (x3 : Int32) (x5 : Int32) (t : mw_T), mw_F [] 0 [(49, 0), (49, 1), (50, 1000)] t (r87 x1 x3 x5 t)) : ∀ (x1 : Int64) (x3 : Int32) (x5 : Int32) (t : mw_T), mw_F [] 0 [(49, 0), (49, 1), (50, 1000)] t (mf_Model_type_l87B N R r87 x1 x3 x5 t) := by
  intro x1 x3 x5 t
  exact (mg_if (mg_if (mg_gd (mg_jp (mg_wiB 50 1000 (by rfl) (Or.inl rfl) mg_rf) (g87 x1 x3 (x5 + Int32.ofInt (1)) (mw_wi t 50 ((t.1 49 1) + x5).toNatClampNeg (vp_nar .char (((x1 >>> (((8 : Int32) * x5).toInt64 &&& 63)) &&& (255 : Int64)).toInt32.toUInt32 % 65536).toInt32))))) (mg_jp mg_rf (mg_Model_type_b131 N R x3 t))) (mg_jp mg_rf (mg_Model_type_b131 N R x3 t)))
theorem mg_Model_type_l87 (N R : Nat) : ∀ (n : Nat), ∀ (x1 : Int64) (x3 : Int32) (x5 : Int32) (t : mw_T), mw_F [] 0 [(49, 0), (49, 1), (50, 1000)] t (mf_Model_type_l87 N R n x1 x3 x5 t) := by
  intro n
  induction n with
  | zero => intros; exact mg_no
  | succ n ih => exact mg_Model_type_l87B N R (mf_Model_type_l87 N R n) ih
theorem mg_Model_type_b81 (N R : Nat) : ∀ (x1 : Int64) (x3 : Int32) (y0 : Int32) (t : mw_T), mw_F [] 0 [(49, 0), (49, 1), (50, 1000)] t (mf_Model_type_b81 N R x1 x3 y0 t) := by
  intro x1 x3 y0 t
  exact (mg_jp (mg_wiB 49 0 (by rfl) (Or.inr rfl) mg_rf) (mg_Model_type_l87 N R N x1 x3 (0 : Int32) (mw_wi t 49 0 y0)))
theorem mg_Model_type_b54 (N R : Nat) : ∀ (x1 : Int64) (x3 : Int32) (x4 : Int32) (t : mw_T), mw_F [] 0 [(49, 0), (49, 1), (50, 1000)] t (mf_Model_type_b54 N R x1 x3 x4 t) := by
  intro x1 x3 x4 t
  exact (mg_if (mg_jp mg_rf (mg_Model_type_b81 N R x1 x3 (1 : Int32) t)) (mg_if (mg_jp mg_rf (mg_Model_type_b81 N R x1 x3 (2 : Int32) t)) (mg_jp mg_rf (mg_Model_type_b81 N R x1 x3 (0 : Int32) t))))
theorem mg_Model_type_l21B (N R : Nat) (r21 : Int64 → Int32 → Int32 → Int32 → mw_T → mw_X Int32) (g21 : ∀ (x1 : Int64) (x3 : Int32) (x4 : Int32) (x5 : Int32) (t : mw_T), mw_F [] 0 [(49, 0), (49, 1), (50, 1000)] t (r21 x1 x3 x4 x5 t)) : ∀ (x1 : Int64) (x3 : Int32) (x4 : Int32) (x5 : Int32) (t : mw_T), mw_F [] 0 [(49, 0), (49, 1), (50, 1000)] t (mf_Model_type_l21B N R r21 x1 x3 x4 x5 t) := by
  intro x1 x3 x4 x5 t
  exact (mg_if (mg_if (mg_jp mg_rf (mg_Model_type_b54 N R x1 x3 x4 t)) (mg_bs mg_rf (mg_Model_isCharacter N R ((x1 >>> (((8 : Int32) * x5).toInt64 &&& 63)) &&& (255 : Int64)) t) (mw_lq0 (by rfl)) (fun v1 t1 e1 => (mg_jp e1 (g21 x1 x3 v1 (x5 + Int32.ofInt (1)) t1))))) (mg_jp mg_rf (mg_Model_type_b54 N R x1 x3 x4 t)))
theorem mg_Model_type_l21 (N R : Nat) : ∀ (n : Nat), ∀ (x1 : Int64) (x3 : Int32) (x4 : Int32) (x5 : Int32) (t : mw_T), mw_F [] 0 [(49, 0), (49, 1), (50, 1000)] t (mf_Model_type_l21 N R n x1 x3 x4 x5 t) := by
  intro n
  induction n with
  | zero => intros; exact mg_no
  | succ n ih => exact mg_Model_type_l21B N R (mf_Model_type_l21 N R n) ih
theorem mg_Model_type_b16 (N R : Nat) : ∀ (x1 : Int64) (x3 : Int32) (y0 : Int32) (t : mw_T), mw_F [] 0 [(49, 0), (49, 1), (50, 1000)] t (mf_Model_type_b16 N R x1 x3 y0 t) := by
  intro x1 x3 y0 t
  exact (mg_jp mg_rf (mg_Model_type_l21 N R N x1 x3 y0 (0 : Int32) t))
theorem mg_Model_type_b15 (N R : Nat) : ∀ (x1 : Int64) (x3 : Int32) (t : mw_T), mw_F [] 0 [(49, 0), (49, 1), (50, 1000)] t (mf_Model_type_b15 N R x1 x3 t) := by
  intro x1 x3 t
  exact (mg_jp mg_rf (mg_Model_type_b16 N R x1 x3 (0 : Int32) t))
theorem mg_Model_type (N R : Nat) : ∀ (x1 : Int64) (x3 : Int32) (t : mw_T), mw_F [] 0 [(49, 0), (49, 1), (50, 1000)] t (mf_Model_type N R x1 x3 t) := by
  intro x1 x3 t
  exact (mg_if (mg_jp mg_rf (mg_Model_type_b15 N R x1 x3 t)) (mg_if (mg_jp mg_rf (mg_Model_type_b15 N R x1 x3 t)) (mg_jp mg_rf (mg_Model_type_b16 N R x1 x3 (1 : Int32) t))))
def mf_Model_thrown (N R : Nat) (t : mw_T) : mw_X Int32 :=
  (some (.inl (t.1 49 0), t))
set_option maxRecDepth 100000 in
theorem mp_Model_thrown (N R s : Nat) : ∀ (t : mw_T), mw_W (mw_d3 mw_eI s) 0 kModel_thrown (0, [(0, .ref 49)], [], mw_E s t) (mf_Model_thrown N R t) := by
  intro t
  unfold mf_Model_thrown
  exact (mw_go 2 (4, [(0, .ref 49)], [.int (t.1 49 0)], mw_E s t) (by with_unfolding_all rfl) (mw_ri (by with_unfolding_all rfl) (by with_unfolding_all rfl) rfl))
theorem mg_Model_thrown (N R : Nat) : ∀ (t : mw_T), mw_F [] 0 [] t (mf_Model_thrown N R t) := by
  intro t
  exact (mg_rt mg_rf)
def mf_Text_empty (N R : Nat) (t : mw_T) : mw_X Unit :=
  (some (.inl (), (mw_wi t 1 1 (0 : Int32))))
set_option maxRecDepth 100000 in
theorem mp_Text_empty (N R s : Nat) : ∀ (t : mw_T), mw_W (mw_d3 mw_eV s) 0 kText_empty (0, [(0, .ref 1)], [], mw_E s t) (mf_Text_empty N R t) := by
  intro t
  unfold mf_Text_empty
  exact (mw_go 3 (5, [(0, .ref 1)], [], mw_E s (mw_wi t 1 1 (0 : Int32))) (by with_unfolding_all rfl) (mw_rv (by with_unfolding_all rfl) (by with_unfolding_all rfl) rfl))
theorem mg_Text_empty (N R : Nat) : ∀ (t : mw_T), mw_F [] 0 [(1, 1)] t (mf_Text_empty N R t) := by
  intro t
  exact (mg_rt (mg_wiB 1 1 (by rfl) (Or.inr rfl) mg_rf))
def mf_Sieve_clear (N R : Nat) (o : Nat) (t : mw_T) : mw_X Int32 :=
  (mw_b (mf_Text_length N R t) (fun v1 t1 => (mw_b (mf_Text_empty N R t1) (fun _ t2 => (some (.inl v1, t2))))))
set_option maxRecDepth 100000 in
theorem mp_Sieve_clear (N R : Nat) (o : Nat) (ho : o = 0 ∨ o = 21) : ∀ (t : mw_T), mw_W (mw_d3 mw_eI o) 1 kSieve_clear (0, [(0, .ref 0)], [], mw_E o t) (mf_Sieve_clear N R o t) := by
  intro t
  rcases ho with rfl | rfl
  · unfold mf_Sieve_clear
    exact (mw_go 2 (4, [(0, .ref 0)], [.ref 1], mw_E 0 t) (by with_unfolding_all rfl) (mw_cI 7 [.ref 1] [] (by with_unfolding_all rfl) (mp_Text_length N R 0 t) (by omega) (fun v1 t1 => (mw_go 3 (12, [(1, .int v1), (0, .ref 0)], [.ref 1], mw_E 0 t1) (by with_unfolding_all rfl) (mw_cV 15 [.ref 1] [] (by with_unfolding_all rfl) (mp_Text_empty N R 0 t1) (by omega) (fun _ t2 => (mw_go 1 (16, [(1, .int v1), (0, .ref 0)], [.int v1], mw_E 0 t2) (by with_unfolding_all rfl) (mw_ri (by with_unfolding_all rfl) (by with_unfolding_all rfl) rfl))))))))
  · unfold mf_Sieve_clear
    exact (mw_go 2 (4, [(0, .ref 0)], [.ref 1], mw_E 21 t) (by with_unfolding_all rfl) (mw_cI 7 [.ref 1] [] (by with_unfolding_all rfl) (mp_Text_length N R 21 t) (by omega) (fun v1 t1 => (mw_go 3 (12, [(1, .int v1), (0, .ref 0)], [.ref 1], mw_E 21 t1) (by with_unfolding_all rfl) (mw_cV 15 [.ref 1] [] (by with_unfolding_all rfl) (mp_Text_empty N R 21 t1) (by omega) (fun _ t2 => (mw_go 1 (16, [(1, .int v1), (0, .ref 0)], [.int v1], mw_E 21 t2) (by with_unfolding_all rfl) (mw_ri (by with_unfolding_all rfl) (by with_unfolding_all rfl) rfl))))))))
theorem mg_Sieve_clear (N R : Nat) (o : Nat) : ∀ (t : mw_T), mw_F [] o [(1, 1)] t (mf_Sieve_clear N R o t) := by
  intro t
  exact (mg_b mg_rf (mg_Text_length N R t) (mw_lq0 (by rfl)) (fun v1 t1 e1 => (mg_b e1 (mg_Text_empty N R t1) (mw_lq0 (by rfl)) (fun _ t2 e2 => (mg_rt e2)))))
def mf_Model_clear (N R : Nat) (t : mw_T) : mw_X Int32 :=
  (some (.inl (t.1 49 1), (mw_wi (mw_wi t 49 0 (0 : Int32)) 49 1 (0 : Int32))))
set_option maxRecDepth 100000 in
theorem mp_Model_clear (N R s : Nat) : ∀ (t : mw_T), mw_W (mw_d3 mw_eI s) 0 kModel_clear (0, [(0, .ref 49)], [], mw_E s t) (mf_Model_clear N R t) := by
  intro t
  unfold mf_Model_clear
  exact (mw_go 10 (16, [(1, .int (t.1 49 1)), (0, .ref 49)], [.int (t.1 49 1)], mw_E s (mw_wi (mw_wi t 49 0 (0 : Int32)) 49 1 (0 : Int32))) (by with_unfolding_all rfl) (mw_ri (by with_unfolding_all rfl) (by with_unfolding_all rfl) rfl))
theorem mg_Model_clear (N R : Nat) : ∀ (t : mw_T), mw_F [] 0 [(49, 0), (49, 1)] t (mf_Model_clear N R t) := by
  intro t
  exact (mg_rt (mg_wiB 49 1 (by rfl) (Or.inr rfl) (mg_wiB 49 0 (by rfl) (Or.inr rfl) mg_rf)))
def mf_Text_at (N R : Nat) (x1 : Int32) (t : mw_T) : mw_X Int32 :=
  (if x1 < (t.1 1 1) then (if mj_in x1 160 = true then (some (.inl (t.1 2 x1.toNatClampNeg), t)) else none) else (some (.inl (0 : Int32), t)))
set_option maxRecDepth 100000 in
theorem mp_Text_at (N R s : Nat) : ∀ (x1 : Int32) (t : mw_T), mw_W (mw_d3 mw_eI s) 0 kText_at (0, [(0, .ref 1), (1, .int x1)], [], mw_E s t) (mf_Text_at N R x1 t) := by
  intro x1 t
  unfold mf_Text_at
  exact (mw_go 3 (5, [(0, .ref 1), (1, .int x1)], [.int (t.1 1 1), .int x1], mw_E s t) (by with_unfolding_all rfl) (mw_l2 8 17 (by with_unfolding_all rfl) (mw_go 3 (13, [(0, .ref 1), (1, .int x1)], [.int x1, .ref 2], mw_E s t) (by with_unfolding_all rfl) (mw_ba 14 (by with_unfolding_all rfl) (by with_unfolding_all rfl) (by with_unfolding_all rfl) (mw_go 1 (18, [(0, .ref 1), (1, .int x1)], [.int (t.1 2 x1.toNatClampNeg)], mw_E s t) (by with_unfolding_all rfl) (mw_ri (by with_unfolding_all rfl) (by with_unfolding_all rfl) rfl)))) (mw_go 1 (18, [(0, .ref 1), (1, .int x1)], [.int (0 : Int32)], mw_E s t) (by with_unfolding_all rfl) (mw_ri (by with_unfolding_all rfl) (by with_unfolding_all rfl) rfl))))
theorem mg_Text_at (N R : Nat) : ∀ (x1 : Int32) (t : mw_T), mw_F [] 0 [] t (mf_Text_at N R x1 t) := by
  intro x1 t
  exact (mg_if (mg_gd (mg_rt mg_rf)) (mg_rt mg_rf))
def mf_Tokens_isLetter (N R : Nat) (x0 : Int32) (t : mw_T) : mw_X Int32 :=
  (if x0 < (97 : Int32) then (some (.inl (0 : Int32), t)) else (if (122 : Int32) < x0 then (some (.inl (0 : Int32), t)) else (some (.inl (1 : Int32), t))))
set_option maxRecDepth 100000 in
theorem mp_Tokens_isLetter (N R s : Nat) : ∀ (x0 : Int32) (t : mw_T), mw_W (mw_d3 mw_eI s) 0 kTokens_isLetter (0, [(0, .int x0)], [], mw_E s t) (mf_Tokens_isLetter N R x0 t) := by
  intro x0 t
  unfold mf_Tokens_isLetter
  exact (mw_go 2 (3, [(0, .int x0)], [.int (97 : Int32), .int x0], mw_E s t) (by with_unfolding_all rfl) (mw_l2 16 6 (by with_unfolding_all rfl) (mw_go 1 (17, [(0, .int x0)], [.int (0 : Int32)], mw_E s t) (by with_unfolding_all rfl) (mw_ri (by with_unfolding_all rfl) (by with_unfolding_all rfl) rfl)) (mw_go 2 (9, [(0, .int x0)], [.int (122 : Int32), .int x0], mw_E s t) (by with_unfolding_all rfl) (mw_g2 16 12 (by with_unfolding_all rfl) (mw_go 1 (17, [(0, .int x0)], [.int (0 : Int32)], mw_E s t) (by with_unfolding_all rfl) (mw_ri (by with_unfolding_all rfl) (by with_unfolding_all rfl) rfl)) (mw_go 2 (17, [(0, .int x0)], [.int (1 : Int32)], mw_E s t) (by with_unfolding_all rfl) (mw_ri (by with_unfolding_all rfl) (by with_unfolding_all rfl) rfl))))))
theorem mg_Tokens_isLetter (N R : Nat) : ∀ (x0 : Int32) (t : mw_T), mw_F [] 0 [] t (mf_Tokens_isLetter N R x0 t) := by
  intro x0 t
  exact (mg_if (mg_rt mg_rf) (mg_if (mg_rt mg_rf) (mg_rt mg_rf)))
def mf_Text_spells_l15B (N R : Nat) (r15 : Int32 → Int32 → mw_T → mw_X Int32) (w : Nat) (x2 : Int32) (x4 : Int32) (t : mw_T) : mw_X Int32 :=
  (if x4 < (nI (mj_sc.getD w []).length) then (mw_b (mf_Text_at N R (x2 + x4) t) (fun v1 t1 => (if mj_in x4 (mj_sc.getD w []).length = true then (if v1 = (nI ((mj_sc.getD w []).getD x4.toNatClampNeg 0)) then (r15 x2 (x4 + Int32.ofInt (1)) t1) else (some (.inl (0 : Int32), t1))) else none))) else (some (.inl (1 : Int32), t)))
def mf_Text_spells_l15 (N R : Nat) (w : Nat) : Nat → Int32 → Int32 → mw_T → mw_X Int32
  | 0 => fun _ _ _ => none
  | n + 1 => fun  x2 x4 t => mf_Text_spells_l15B N R (mf_Text_spells_l15 N R w n) w  x2 x4 t
def mf_Text_spells (N R : Nat) (w : Nat) (x2 : Int32) (x3 : Int32) (t : mw_T) : mw_X Int32 :=
  (if (nI (mj_sc.getD w []).length) = (x3 - x2) then (mf_Text_spells_l15 N R w N x2 (0 : Int32) t) else (some (.inl (0 : Int32), t)))
set_option maxRecDepth 100000 in
theorem mp_Text_spells_l15B_0 (N R s : Nat) (r15 : Int32 → Int32 → mw_T → mw_X Int32) (h15 : ∀ (x2 : Int32) (x4 : Int32) (t : mw_T), mw_W (mw_d3 mw_eI s) 6 kText_spells (15, [(0, .ref 1), (1, .ref (2000 + 0)), (2, .int x2), (4, .int x4)], [], mw_E s t) (r15 x2 x4 t)) : ∀ (x2 : Int32) (x4 : Int32) (t : mw_T), mw_W (mw_d3 mw_eI s) 6 kText_spells (15, [(0, .ref 1), (1, .ref (2000 + 0)), (2, .int x2), (4, .int x4)], [], mw_E s t) (mf_Text_spells_l15B N R r15 0 x2 x4 t) := by
  intro x2 x4 t
  unfold mf_Text_spells_l15B
  exact (mw_go 2 (18, [(0, .ref 1), (1, .ref 2000), (2, .int x2), (4, .int x4)], [.ref 2000, .int x4], mw_E s t) (by with_unfolding_all rfl) (mw_lb (21, [(0, .ref 1), (1, .ref 2000), (2, .int x2), (4, .int x4)], [.int (nI (mj_sc.getD 0 []).length), .int x4], mw_E s t) (by with_unfolding_all rfl) (by omega) (by with_unfolding_all rfl) (mw_l2 24 49 (by with_unfolding_all rfl) (mw_go 4 (29, [(0, .ref 1), (1, .ref 2000), (2, .int x2), (4, .int x4)], [.int (x2 + x4), .ref 1], mw_E s t) (by with_unfolding_all rfl) (mw_cI 32 [.ref 1, .int (x2 + x4)] [] (by with_unfolding_all rfl) (mp_Text_at N R s (x2 + x4) t) (by omega) (fun v1 t1 => (mw_go 2 (35, [(0, .ref 1), (1, .ref 2000), (2, .int x2), (4, .int x4)], [.int x4, .ref 2000, .int v1], mw_E s t1) (by with_unfolding_all rfl) (mw_ch 0 38 (by with_unfolding_all rfl) (by omega) (by with_unfolding_all rfl) (mw_e2 43 41 (by with_unfolding_all rfl) (mw_go 2 (15, [(4, .int (x4 + Int32.ofInt (1))), (0, .ref 1), (1, .ref 2000), (2, .int x2)], [], mw_E s t1) (by with_unfolding_all rfl) (mw_jp [(0, .ref 1), (1, .ref 2000), (2, .int x2), (4, .int (x4 + Int32.ofInt (1)))] (by with_unfolding_all rfl) (by with_unfolding_all rfl) (by with_unfolding_all rfl) (h15 x2 (x4 + Int32.ofInt (1)) t1))) (mw_go 1 (42, [(0, .ref 1), (1, .ref 2000), (2, .int x2), (4, .int x4)], [.int (0 : Int32)], mw_E s t1) (by with_unfolding_all rfl) (mw_ri (by with_unfolding_all rfl) (by with_unfolding_all rfl) rfl)))))))) (mw_go 1 (50, [(0, .ref 1), (1, .ref 2000), (2, .int x2), (4, .int x4)], [.int (1 : Int32)], mw_E s t) (by with_unfolding_all rfl) (mw_ri (by with_unfolding_all rfl) (by with_unfolding_all rfl) rfl)))))
set_option maxRecDepth 100000 in
theorem mp_Text_spells_l15_0 (N R s : Nat) : ∀ (n : Nat), ∀ (x2 : Int32) (x4 : Int32) (t : mw_T), mw_W (mw_d3 mw_eI s) 6 kText_spells (15, [(0, .ref 1), (1, .ref (2000 + 0)), (2, .int x2), (4, .int x4)], [], mw_E s t) (mf_Text_spells_l15 N R 0 n x2 x4 t) := by
  intro n
  induction n with
  | zero => intros; exact mw_no
  | succ n ih => exact mp_Text_spells_l15B_0 N R s (mf_Text_spells_l15 N R 0 n) ih
set_option maxRecDepth 100000 in
theorem mp_Text_spells_0 (N R s : Nat) : ∀ (x2 : Int32) (x3 : Int32) (t : mw_T), mw_W (mw_d3 mw_eI s) 6 kText_spells (0, [(0, .ref 1), (1, .ref (2000 + 0)), (2, .int x2), (3, .int x3)], [], mw_E s t) (mf_Text_spells N R 0 x2 x3 t) := by
  intro x2 x3 t
  unfold mf_Text_spells
  exact (mw_go 1 (1, [(0, .ref 1), (1, .ref 2000), (2, .int x2), (3, .int x3)], [.ref 2000], mw_E s t) (by with_unfolding_all rfl) (mw_lb (4, [(0, .ref 1), (1, .ref 2000), (2, .int x2), (3, .int x3)], [.int (nI (mj_sc.getD 0 []).length)], mw_E s t) (by with_unfolding_all rfl) (by omega) (by with_unfolding_all rfl) (mw_go 3 (7, [(0, .ref 1), (1, .ref 2000), (2, .int x2), (3, .int x3)], [.int (x3 - x2), .int (nI (mj_sc.getD 0 []).length)], mw_E s t) (by with_unfolding_all rfl) (mw_e2 12 10 (by with_unfolding_all rfl) (mw_go 2 (15, [(4, .int (0 : Int32)), (0, .ref 1), (1, .ref 2000), (2, .int x2), (3, .int x3)], [], mw_E s t) (by with_unfolding_all rfl) (mw_jp [(0, .ref 1), (1, .ref 2000), (2, .int x2), (4, .int (0 : Int32))] (by with_unfolding_all rfl) (by with_unfolding_all rfl) (by with_unfolding_all rfl) (mp_Text_spells_l15_0 N R s N x2 (0 : Int32) t))) (mw_go 1 (11, [(0, .ref 1), (1, .ref 2000), (2, .int x2), (3, .int x3)], [.int (0 : Int32)], mw_E s t) (by with_unfolding_all rfl) (mw_ri (by with_unfolding_all rfl) (by with_unfolding_all rfl) rfl))))))
set_option maxRecDepth 100000 in
theorem mp_Text_spells_l15B_1 (N R s : Nat) (r15 : Int32 → Int32 → mw_T → mw_X Int32) (h15 : ∀ (x2 : Int32) (x4 : Int32) (t : mw_T), mw_W (mw_d3 mw_eI s) 6 kText_spells (15, [(0, .ref 1), (1, .ref (2000 + 1)), (2, .int x2), (4, .int x4)], [], mw_E s t) (r15 x2 x4 t)) : ∀ (x2 : Int32) (x4 : Int32) (t : mw_T), mw_W (mw_d3 mw_eI s) 6 kText_spells (15, [(0, .ref 1), (1, .ref (2000 + 1)), (2, .int x2), (4, .int x4)], [], mw_E s t) (mf_Text_spells_l15B N R r15 1 x2 x4 t) := by
  intro x2 x4 t
  unfold mf_Text_spells_l15B
  exact (mw_go 2 (18, [(0, .ref 1), (1, .ref 2001), (2, .int x2), (4, .int x4)], [.ref 2001, .int x4], mw_E s t) (by with_unfolding_all rfl) (mw_lb (21, [(0, .ref 1), (1, .ref 2001), (2, .int x2), (4, .int x4)], [.int (nI (mj_sc.getD 1 []).length), .int x4], mw_E s t) (by with_unfolding_all rfl) (by omega) (by with_unfolding_all rfl) (mw_l2 24 49 (by with_unfolding_all rfl) (mw_go 4 (29, [(0, .ref 1), (1, .ref 2001), (2, .int x2), (4, .int x4)], [.int (x2 + x4), .ref 1], mw_E s t) (by with_unfolding_all rfl) (mw_cI 32 [.ref 1, .int (x2 + x4)] [] (by with_unfolding_all rfl) (mp_Text_at N R s (x2 + x4) t) (by omega) (fun v1 t1 => (mw_go 2 (35, [(0, .ref 1), (1, .ref 2001), (2, .int x2), (4, .int x4)], [.int x4, .ref 2001, .int v1], mw_E s t1) (by with_unfolding_all rfl) (mw_ch 1 38 (by with_unfolding_all rfl) (by omega) (by with_unfolding_all rfl) (mw_e2 43 41 (by with_unfolding_all rfl) (mw_go 2 (15, [(4, .int (x4 + Int32.ofInt (1))), (0, .ref 1), (1, .ref 2001), (2, .int x2)], [], mw_E s t1) (by with_unfolding_all rfl) (mw_jp [(0, .ref 1), (1, .ref 2001), (2, .int x2), (4, .int (x4 + Int32.ofInt (1)))] (by with_unfolding_all rfl) (by with_unfolding_all rfl) (by with_unfolding_all rfl) (h15 x2 (x4 + Int32.ofInt (1)) t1))) (mw_go 1 (42, [(0, .ref 1), (1, .ref 2001), (2, .int x2), (4, .int x4)], [.int (0 : Int32)], mw_E s t1) (by with_unfolding_all rfl) (mw_ri (by with_unfolding_all rfl) (by with_unfolding_all rfl) rfl)))))))) (mw_go 1 (50, [(0, .ref 1), (1, .ref 2001), (2, .int x2), (4, .int x4)], [.int (1 : Int32)], mw_E s t) (by with_unfolding_all rfl) (mw_ri (by with_unfolding_all rfl) (by with_unfolding_all rfl) rfl)))))
set_option maxRecDepth 100000 in
theorem mp_Text_spells_l15_1 (N R s : Nat) : ∀ (n : Nat), ∀ (x2 : Int32) (x4 : Int32) (t : mw_T), mw_W (mw_d3 mw_eI s) 6 kText_spells (15, [(0, .ref 1), (1, .ref (2000 + 1)), (2, .int x2), (4, .int x4)], [], mw_E s t) (mf_Text_spells_l15 N R 1 n x2 x4 t) := by
  intro n
  induction n with
  | zero => intros; exact mw_no
  | succ n ih => exact mp_Text_spells_l15B_1 N R s (mf_Text_spells_l15 N R 1 n) ih
set_option maxRecDepth 100000 in
theorem mp_Text_spells_1 (N R s : Nat) : ∀ (x2 : Int32) (x3 : Int32) (t : mw_T), mw_W (mw_d3 mw_eI s) 6 kText_spells (0, [(0, .ref 1), (1, .ref (2000 + 1)), (2, .int x2), (3, .int x3)], [], mw_E s t) (mf_Text_spells N R 1 x2 x3 t) := by
  intro x2 x3 t
  unfold mf_Text_spells
  exact (mw_go 1 (1, [(0, .ref 1), (1, .ref 2001), (2, .int x2), (3, .int x3)], [.ref 2001], mw_E s t) (by with_unfolding_all rfl) (mw_lb (4, [(0, .ref 1), (1, .ref 2001), (2, .int x2), (3, .int x3)], [.int (nI (mj_sc.getD 1 []).length)], mw_E s t) (by with_unfolding_all rfl) (by omega) (by with_unfolding_all rfl) (mw_go 3 (7, [(0, .ref 1), (1, .ref 2001), (2, .int x2), (3, .int x3)], [.int (x3 - x2), .int (nI (mj_sc.getD 1 []).length)], mw_E s t) (by with_unfolding_all rfl) (mw_e2 12 10 (by with_unfolding_all rfl) (mw_go 2 (15, [(4, .int (0 : Int32)), (0, .ref 1), (1, .ref 2001), (2, .int x2), (3, .int x3)], [], mw_E s t) (by with_unfolding_all rfl) (mw_jp [(0, .ref 1), (1, .ref 2001), (2, .int x2), (4, .int (0 : Int32))] (by with_unfolding_all rfl) (by with_unfolding_all rfl) (by with_unfolding_all rfl) (mp_Text_spells_l15_1 N R s N x2 (0 : Int32) t))) (mw_go 1 (11, [(0, .ref 1), (1, .ref 2001), (2, .int x2), (3, .int x3)], [.int (0 : Int32)], mw_E s t) (by with_unfolding_all rfl) (mw_ri (by with_unfolding_all rfl) (by with_unfolding_all rfl) rfl))))))
set_option maxRecDepth 100000 in
theorem mp_Text_spells_l15B_2 (N R s : Nat) (r15 : Int32 → Int32 → mw_T → mw_X Int32) (h15 : ∀ (x2 : Int32) (x4 : Int32) (t : mw_T), mw_W (mw_d3 mw_eI s) 6 kText_spells (15, [(0, .ref 1), (1, .ref (2000 + 2)), (2, .int x2), (4, .int x4)], [], mw_E s t) (r15 x2 x4 t)) : ∀ (x2 : Int32) (x4 : Int32) (t : mw_T), mw_W (mw_d3 mw_eI s) 6 kText_spells (15, [(0, .ref 1), (1, .ref (2000 + 2)), (2, .int x2), (4, .int x4)], [], mw_E s t) (mf_Text_spells_l15B N R r15 2 x2 x4 t) := by
  intro x2 x4 t
  unfold mf_Text_spells_l15B
  exact (mw_go 2 (18, [(0, .ref 1), (1, .ref 2002), (2, .int x2), (4, .int x4)], [.ref 2002, .int x4], mw_E s t) (by with_unfolding_all rfl) (mw_lb (21, [(0, .ref 1), (1, .ref 2002), (2, .int x2), (4, .int x4)], [.int (nI (mj_sc.getD 2 []).length), .int x4], mw_E s t) (by with_unfolding_all rfl) (by omega) (by with_unfolding_all rfl) (mw_l2 24 49 (by with_unfolding_all rfl) (mw_go 4 (29, [(0, .ref 1), (1, .ref 2002), (2, .int x2), (4, .int x4)], [.int (x2 + x4), .ref 1], mw_E s t) (by with_unfolding_all rfl) (mw_cI 32 [.ref 1, .int (x2 + x4)] [] (by with_unfolding_all rfl) (mp_Text_at N R s (x2 + x4) t) (by omega) (fun v1 t1 => (mw_go 2 (35, [(0, .ref 1), (1, .ref 2002), (2, .int x2), (4, .int x4)], [.int x4, .ref 2002, .int v1], mw_E s t1) (by with_unfolding_all rfl) (mw_ch 2 38 (by with_unfolding_all rfl) (by omega) (by with_unfolding_all rfl) (mw_e2 43 41 (by with_unfolding_all rfl) (mw_go 2 (15, [(4, .int (x4 + Int32.ofInt (1))), (0, .ref 1), (1, .ref 2002), (2, .int x2)], [], mw_E s t1) (by with_unfolding_all rfl) (mw_jp [(0, .ref 1), (1, .ref 2002), (2, .int x2), (4, .int (x4 + Int32.ofInt (1)))] (by with_unfolding_all rfl) (by with_unfolding_all rfl) (by with_unfolding_all rfl) (h15 x2 (x4 + Int32.ofInt (1)) t1))) (mw_go 1 (42, [(0, .ref 1), (1, .ref 2002), (2, .int x2), (4, .int x4)], [.int (0 : Int32)], mw_E s t1) (by with_unfolding_all rfl) (mw_ri (by with_unfolding_all rfl) (by with_unfolding_all rfl) rfl)))))))) (mw_go 1 (50, [(0, .ref 1), (1, .ref 2002), (2, .int x2), (4, .int x4)], [.int (1 : Int32)], mw_E s t) (by with_unfolding_all rfl) (mw_ri (by with_unfolding_all rfl) (by with_unfolding_all rfl) rfl)))))
set_option maxRecDepth 100000 in
theorem mp_Text_spells_l15_2 (N R s : Nat) : ∀ (n : Nat), ∀ (x2 : Int32) (x4 : Int32) (t : mw_T), mw_W (mw_d3 mw_eI s) 6 kText_spells (15, [(0, .ref 1), (1, .ref (2000 + 2)), (2, .int x2), (4, .int x4)], [], mw_E s t) (mf_Text_spells_l15 N R 2 n x2 x4 t) := by
  intro n
  induction n with
  | zero => intros; exact mw_no
  | succ n ih => exact mp_Text_spells_l15B_2 N R s (mf_Text_spells_l15 N R 2 n) ih
set_option maxRecDepth 100000 in
theorem mp_Text_spells_2 (N R s : Nat) : ∀ (x2 : Int32) (x3 : Int32) (t : mw_T), mw_W (mw_d3 mw_eI s) 6 kText_spells (0, [(0, .ref 1), (1, .ref (2000 + 2)), (2, .int x2), (3, .int x3)], [], mw_E s t) (mf_Text_spells N R 2 x2 x3 t) := by
  intro x2 x3 t
  unfold mf_Text_spells
  exact (mw_go 1 (1, [(0, .ref 1), (1, .ref 2002), (2, .int x2), (3, .int x3)], [.ref 2002], mw_E s t) (by with_unfolding_all rfl) (mw_lb (4, [(0, .ref 1), (1, .ref 2002), (2, .int x2), (3, .int x3)], [.int (nI (mj_sc.getD 2 []).length)], mw_E s t) (by with_unfolding_all rfl) (by omega) (by with_unfolding_all rfl) (mw_go 3 (7, [(0, .ref 1), (1, .ref 2002), (2, .int x2), (3, .int x3)], [.int (x3 - x2), .int (nI (mj_sc.getD 2 []).length)], mw_E s t) (by with_unfolding_all rfl) (mw_e2 12 10 (by with_unfolding_all rfl) (mw_go 2 (15, [(4, .int (0 : Int32)), (0, .ref 1), (1, .ref 2002), (2, .int x2), (3, .int x3)], [], mw_E s t) (by with_unfolding_all rfl) (mw_jp [(0, .ref 1), (1, .ref 2002), (2, .int x2), (4, .int (0 : Int32))] (by with_unfolding_all rfl) (by with_unfolding_all rfl) (by with_unfolding_all rfl) (mp_Text_spells_l15_2 N R s N x2 (0 : Int32) t))) (mw_go 1 (11, [(0, .ref 1), (1, .ref 2002), (2, .int x2), (3, .int x3)], [.int (0 : Int32)], mw_E s t) (by with_unfolding_all rfl) (mw_ri (by with_unfolding_all rfl) (by with_unfolding_all rfl) rfl))))))
set_option maxRecDepth 100000 in
theorem mp_Text_spells_l15B_3 (N R s : Nat) (r15 : Int32 → Int32 → mw_T → mw_X Int32) (h15 : ∀ (x2 : Int32) (x4 : Int32) (t : mw_T), mw_W (mw_d3 mw_eI s) 6 kText_spells (15, [(0, .ref 1), (1, .ref (2000 + 3)), (2, .int x2), (4, .int x4)], [], mw_E s t) (r15 x2 x4 t)) : ∀ (x2 : Int32) (x4 : Int32) (t : mw_T), mw_W (mw_d3 mw_eI s) 6 kText_spells (15, [(0, .ref 1), (1, .ref (2000 + 3)), (2, .int x2), (4, .int x4)], [], mw_E s t) (mf_Text_spells_l15B N R r15 3 x2 x4 t) := by
  intro x2 x4 t
  unfold mf_Text_spells_l15B
  exact (mw_go 2 (18, [(0, .ref 1), (1, .ref 2003), (2, .int x2), (4, .int x4)], [.ref 2003, .int x4], mw_E s t) (by with_unfolding_all rfl) (mw_lb (21, [(0, .ref 1), (1, .ref 2003), (2, .int x2), (4, .int x4)], [.int (nI (mj_sc.getD 3 []).length), .int x4], mw_E s t) (by with_unfolding_all rfl) (by omega) (by with_unfolding_all rfl) (mw_l2 24 49 (by with_unfolding_all rfl) (mw_go 4 (29, [(0, .ref 1), (1, .ref 2003), (2, .int x2), (4, .int x4)], [.int (x2 + x4), .ref 1], mw_E s t) (by with_unfolding_all rfl) (mw_cI 32 [.ref 1, .int (x2 + x4)] [] (by with_unfolding_all rfl) (mp_Text_at N R s (x2 + x4) t) (by omega) (fun v1 t1 => (mw_go 2 (35, [(0, .ref 1), (1, .ref 2003), (2, .int x2), (4, .int x4)], [.int x4, .ref 2003, .int v1], mw_E s t1) (by with_unfolding_all rfl) (mw_ch 3 38 (by with_unfolding_all rfl) (by omega) (by with_unfolding_all rfl) (mw_e2 43 41 (by with_unfolding_all rfl) (mw_go 2 (15, [(4, .int (x4 + Int32.ofInt (1))), (0, .ref 1), (1, .ref 2003), (2, .int x2)], [], mw_E s t1) (by with_unfolding_all rfl) (mw_jp [(0, .ref 1), (1, .ref 2003), (2, .int x2), (4, .int (x4 + Int32.ofInt (1)))] (by with_unfolding_all rfl) (by with_unfolding_all rfl) (by with_unfolding_all rfl) (h15 x2 (x4 + Int32.ofInt (1)) t1))) (mw_go 1 (42, [(0, .ref 1), (1, .ref 2003), (2, .int x2), (4, .int x4)], [.int (0 : Int32)], mw_E s t1) (by with_unfolding_all rfl) (mw_ri (by with_unfolding_all rfl) (by with_unfolding_all rfl) rfl)))))))) (mw_go 1 (50, [(0, .ref 1), (1, .ref 2003), (2, .int x2), (4, .int x4)], [.int (1 : Int32)], mw_E s t) (by with_unfolding_all rfl) (mw_ri (by with_unfolding_all rfl) (by with_unfolding_all rfl) rfl)))))
set_option maxRecDepth 100000 in
theorem mp_Text_spells_l15_3 (N R s : Nat) : ∀ (n : Nat), ∀ (x2 : Int32) (x4 : Int32) (t : mw_T), mw_W (mw_d3 mw_eI s) 6 kText_spells (15, [(0, .ref 1), (1, .ref (2000 + 3)), (2, .int x2), (4, .int x4)], [], mw_E s t) (mf_Text_spells_l15 N R 3 n x2 x4 t) := by
  intro n
  induction n with
  | zero => intros; exact mw_no
  | succ n ih => exact mp_Text_spells_l15B_3 N R s (mf_Text_spells_l15 N R 3 n) ih
set_option maxRecDepth 100000 in
theorem mp_Text_spells_3 (N R s : Nat) : ∀ (x2 : Int32) (x3 : Int32) (t : mw_T), mw_W (mw_d3 mw_eI s) 6 kText_spells (0, [(0, .ref 1), (1, .ref (2000 + 3)), (2, .int x2), (3, .int x3)], [], mw_E s t) (mf_Text_spells N R 3 x2 x3 t) := by
  intro x2 x3 t
  unfold mf_Text_spells
  exact (mw_go 1 (1, [(0, .ref 1), (1, .ref 2003), (2, .int x2), (3, .int x3)], [.ref 2003], mw_E s t) (by with_unfolding_all rfl) (mw_lb (4, [(0, .ref 1), (1, .ref 2003), (2, .int x2), (3, .int x3)], [.int (nI (mj_sc.getD 3 []).length)], mw_E s t) (by with_unfolding_all rfl) (by omega) (by with_unfolding_all rfl) (mw_go 3 (7, [(0, .ref 1), (1, .ref 2003), (2, .int x2), (3, .int x3)], [.int (x3 - x2), .int (nI (mj_sc.getD 3 []).length)], mw_E s t) (by with_unfolding_all rfl) (mw_e2 12 10 (by with_unfolding_all rfl) (mw_go 2 (15, [(4, .int (0 : Int32)), (0, .ref 1), (1, .ref 2003), (2, .int x2), (3, .int x3)], [], mw_E s t) (by with_unfolding_all rfl) (mw_jp [(0, .ref 1), (1, .ref 2003), (2, .int x2), (4, .int (0 : Int32))] (by with_unfolding_all rfl) (by with_unfolding_all rfl) (by with_unfolding_all rfl) (mp_Text_spells_l15_3 N R s N x2 (0 : Int32) t))) (mw_go 1 (11, [(0, .ref 1), (1, .ref 2003), (2, .int x2), (3, .int x3)], [.int (0 : Int32)], mw_E s t) (by with_unfolding_all rfl) (mw_ri (by with_unfolding_all rfl) (by with_unfolding_all rfl) rfl))))))
set_option maxRecDepth 100000 in
theorem mp_Text_spells_l15B_4 (N R s : Nat) (r15 : Int32 → Int32 → mw_T → mw_X Int32) (h15 : ∀ (x2 : Int32) (x4 : Int32) (t : mw_T), mw_W (mw_d3 mw_eI s) 6 kText_spells (15, [(0, .ref 1), (1, .ref (2000 + 4)), (2, .int x2), (4, .int x4)], [], mw_E s t) (r15 x2 x4 t)) : ∀ (x2 : Int32) (x4 : Int32) (t : mw_T), mw_W (mw_d3 mw_eI s) 6 kText_spells (15, [(0, .ref 1), (1, .ref (2000 + 4)), (2, .int x2), (4, .int x4)], [], mw_E s t) (mf_Text_spells_l15B N R r15 4 x2 x4 t) := by
  intro x2 x4 t
  unfold mf_Text_spells_l15B
  exact (mw_go 2 (18, [(0, .ref 1), (1, .ref 2004), (2, .int x2), (4, .int x4)], [.ref 2004, .int x4], mw_E s t) (by with_unfolding_all rfl) (mw_lb (21, [(0, .ref 1), (1, .ref 2004), (2, .int x2), (4, .int x4)], [.int (nI (mj_sc.getD 4 []).length), .int x4], mw_E s t) (by with_unfolding_all rfl) (by omega) (by with_unfolding_all rfl) (mw_l2 24 49 (by with_unfolding_all rfl) (mw_go 4 (29, [(0, .ref 1), (1, .ref 2004), (2, .int x2), (4, .int x4)], [.int (x2 + x4), .ref 1], mw_E s t) (by with_unfolding_all rfl) (mw_cI 32 [.ref 1, .int (x2 + x4)] [] (by with_unfolding_all rfl) (mp_Text_at N R s (x2 + x4) t) (by omega) (fun v1 t1 => (mw_go 2 (35, [(0, .ref 1), (1, .ref 2004), (2, .int x2), (4, .int x4)], [.int x4, .ref 2004, .int v1], mw_E s t1) (by with_unfolding_all rfl) (mw_ch 4 38 (by with_unfolding_all rfl) (by omega) (by with_unfolding_all rfl) (mw_e2 43 41 (by with_unfolding_all rfl) (mw_go 2 (15, [(4, .int (x4 + Int32.ofInt (1))), (0, .ref 1), (1, .ref 2004), (2, .int x2)], [], mw_E s t1) (by with_unfolding_all rfl) (mw_jp [(0, .ref 1), (1, .ref 2004), (2, .int x2), (4, .int (x4 + Int32.ofInt (1)))] (by with_unfolding_all rfl) (by with_unfolding_all rfl) (by with_unfolding_all rfl) (h15 x2 (x4 + Int32.ofInt (1)) t1))) (mw_go 1 (42, [(0, .ref 1), (1, .ref 2004), (2, .int x2), (4, .int x4)], [.int (0 : Int32)], mw_E s t1) (by with_unfolding_all rfl) (mw_ri (by with_unfolding_all rfl) (by with_unfolding_all rfl) rfl)))))))) (mw_go 1 (50, [(0, .ref 1), (1, .ref 2004), (2, .int x2), (4, .int x4)], [.int (1 : Int32)], mw_E s t) (by with_unfolding_all rfl) (mw_ri (by with_unfolding_all rfl) (by with_unfolding_all rfl) rfl)))))
set_option maxRecDepth 100000 in
theorem mp_Text_spells_l15_4 (N R s : Nat) : ∀ (n : Nat), ∀ (x2 : Int32) (x4 : Int32) (t : mw_T), mw_W (mw_d3 mw_eI s) 6 kText_spells (15, [(0, .ref 1), (1, .ref (2000 + 4)), (2, .int x2), (4, .int x4)], [], mw_E s t) (mf_Text_spells_l15 N R 4 n x2 x4 t) := by
  intro n
  induction n with
  | zero => intros; exact mw_no
  | succ n ih => exact mp_Text_spells_l15B_4 N R s (mf_Text_spells_l15 N R 4 n) ih
set_option maxRecDepth 100000 in
theorem mp_Text_spells_4 (N R s : Nat) : ∀ (x2 : Int32) (x3 : Int32) (t : mw_T), mw_W (mw_d3 mw_eI s) 6 kText_spells (0, [(0, .ref 1), (1, .ref (2000 + 4)), (2, .int x2), (3, .int x3)], [], mw_E s t) (mf_Text_spells N R 4 x2 x3 t) := by
  intro x2 x3 t
  unfold mf_Text_spells
  exact (mw_go 1 (1, [(0, .ref 1), (1, .ref 2004), (2, .int x2), (3, .int x3)], [.ref 2004], mw_E s t) (by with_unfolding_all rfl) (mw_lb (4, [(0, .ref 1), (1, .ref 2004), (2, .int x2), (3, .int x3)], [.int (nI (mj_sc.getD 4 []).length)], mw_E s t) (by with_unfolding_all rfl) (by omega) (by with_unfolding_all rfl) (mw_go 3 (7, [(0, .ref 1), (1, .ref 2004), (2, .int x2), (3, .int x3)], [.int (x3 - x2), .int (nI (mj_sc.getD 4 []).length)], mw_E s t) (by with_unfolding_all rfl) (mw_e2 12 10 (by with_unfolding_all rfl) (mw_go 2 (15, [(4, .int (0 : Int32)), (0, .ref 1), (1, .ref 2004), (2, .int x2), (3, .int x3)], [], mw_E s t) (by with_unfolding_all rfl) (mw_jp [(0, .ref 1), (1, .ref 2004), (2, .int x2), (4, .int (0 : Int32))] (by with_unfolding_all rfl) (by with_unfolding_all rfl) (by with_unfolding_all rfl) (mp_Text_spells_l15_4 N R s N x2 (0 : Int32) t))) (mw_go 1 (11, [(0, .ref 1), (1, .ref 2004), (2, .int x2), (3, .int x3)], [.int (0 : Int32)], mw_E s t) (by with_unfolding_all rfl) (mw_ri (by with_unfolding_all rfl) (by with_unfolding_all rfl) rfl))))))
set_option maxRecDepth 100000 in
theorem mp_Text_spells_l15B_5 (N R s : Nat) (r15 : Int32 → Int32 → mw_T → mw_X Int32) (h15 : ∀ (x2 : Int32) (x4 : Int32) (t : mw_T), mw_W (mw_d3 mw_eI s) 6 kText_spells (15, [(0, .ref 1), (1, .ref (2000 + 5)), (2, .int x2), (4, .int x4)], [], mw_E s t) (r15 x2 x4 t)) : ∀ (x2 : Int32) (x4 : Int32) (t : mw_T), mw_W (mw_d3 mw_eI s) 6 kText_spells (15, [(0, .ref 1), (1, .ref (2000 + 5)), (2, .int x2), (4, .int x4)], [], mw_E s t) (mf_Text_spells_l15B N R r15 5 x2 x4 t) := by
  intro x2 x4 t
  unfold mf_Text_spells_l15B
  exact (mw_go 2 (18, [(0, .ref 1), (1, .ref 2005), (2, .int x2), (4, .int x4)], [.ref 2005, .int x4], mw_E s t) (by with_unfolding_all rfl) (mw_lb (21, [(0, .ref 1), (1, .ref 2005), (2, .int x2), (4, .int x4)], [.int (nI (mj_sc.getD 5 []).length), .int x4], mw_E s t) (by with_unfolding_all rfl) (by omega) (by with_unfolding_all rfl) (mw_l2 24 49 (by with_unfolding_all rfl) (mw_go 4 (29, [(0, .ref 1), (1, .ref 2005), (2, .int x2), (4, .int x4)], [.int (x2 + x4), .ref 1], mw_E s t) (by with_unfolding_all rfl) (mw_cI 32 [.ref 1, .int (x2 + x4)] [] (by with_unfolding_all rfl) (mp_Text_at N R s (x2 + x4) t) (by omega) (fun v1 t1 => (mw_go 2 (35, [(0, .ref 1), (1, .ref 2005), (2, .int x2), (4, .int x4)], [.int x4, .ref 2005, .int v1], mw_E s t1) (by with_unfolding_all rfl) (mw_ch 5 38 (by with_unfolding_all rfl) (by omega) (by with_unfolding_all rfl) (mw_e2 43 41 (by with_unfolding_all rfl) (mw_go 2 (15, [(4, .int (x4 + Int32.ofInt (1))), (0, .ref 1), (1, .ref 2005), (2, .int x2)], [], mw_E s t1) (by with_unfolding_all rfl) (mw_jp [(0, .ref 1), (1, .ref 2005), (2, .int x2), (4, .int (x4 + Int32.ofInt (1)))] (by with_unfolding_all rfl) (by with_unfolding_all rfl) (by with_unfolding_all rfl) (h15 x2 (x4 + Int32.ofInt (1)) t1))) (mw_go 1 (42, [(0, .ref 1), (1, .ref 2005), (2, .int x2), (4, .int x4)], [.int (0 : Int32)], mw_E s t1) (by with_unfolding_all rfl) (mw_ri (by with_unfolding_all rfl) (by with_unfolding_all rfl) rfl)))))))) (mw_go 1 (50, [(0, .ref 1), (1, .ref 2005), (2, .int x2), (4, .int x4)], [.int (1 : Int32)], mw_E s t) (by with_unfolding_all rfl) (mw_ri (by with_unfolding_all rfl) (by with_unfolding_all rfl) rfl)))))
set_option maxRecDepth 100000 in
theorem mp_Text_spells_l15_5 (N R s : Nat) : ∀ (n : Nat), ∀ (x2 : Int32) (x4 : Int32) (t : mw_T), mw_W (mw_d3 mw_eI s) 6 kText_spells (15, [(0, .ref 1), (1, .ref (2000 + 5)), (2, .int x2), (4, .int x4)], [], mw_E s t) (mf_Text_spells_l15 N R 5 n x2 x4 t) := by
  intro n
  induction n with
  | zero => intros; exact mw_no
  | succ n ih => exact mp_Text_spells_l15B_5 N R s (mf_Text_spells_l15 N R 5 n) ih
set_option maxRecDepth 100000 in
theorem mp_Text_spells_5 (N R s : Nat) : ∀ (x2 : Int32) (x3 : Int32) (t : mw_T), mw_W (mw_d3 mw_eI s) 6 kText_spells (0, [(0, .ref 1), (1, .ref (2000 + 5)), (2, .int x2), (3, .int x3)], [], mw_E s t) (mf_Text_spells N R 5 x2 x3 t) := by
  intro x2 x3 t
  unfold mf_Text_spells
  exact (mw_go 1 (1, [(0, .ref 1), (1, .ref 2005), (2, .int x2), (3, .int x3)], [.ref 2005], mw_E s t) (by with_unfolding_all rfl) (mw_lb (4, [(0, .ref 1), (1, .ref 2005), (2, .int x2), (3, .int x3)], [.int (nI (mj_sc.getD 5 []).length)], mw_E s t) (by with_unfolding_all rfl) (by omega) (by with_unfolding_all rfl) (mw_go 3 (7, [(0, .ref 1), (1, .ref 2005), (2, .int x2), (3, .int x3)], [.int (x3 - x2), .int (nI (mj_sc.getD 5 []).length)], mw_E s t) (by with_unfolding_all rfl) (mw_e2 12 10 (by with_unfolding_all rfl) (mw_go 2 (15, [(4, .int (0 : Int32)), (0, .ref 1), (1, .ref 2005), (2, .int x2), (3, .int x3)], [], mw_E s t) (by with_unfolding_all rfl) (mw_jp [(0, .ref 1), (1, .ref 2005), (2, .int x2), (4, .int (0 : Int32))] (by with_unfolding_all rfl) (by with_unfolding_all rfl) (by with_unfolding_all rfl) (mp_Text_spells_l15_5 N R s N x2 (0 : Int32) t))) (mw_go 1 (11, [(0, .ref 1), (1, .ref 2005), (2, .int x2), (3, .int x3)], [.int (0 : Int32)], mw_E s t) (by with_unfolding_all rfl) (mw_ri (by with_unfolding_all rfl) (by with_unfolding_all rfl) rfl))))))
set_option maxRecDepth 100000 in
theorem mp_Text_spells_l15B_6 (N R s : Nat) (r15 : Int32 → Int32 → mw_T → mw_X Int32) (h15 : ∀ (x2 : Int32) (x4 : Int32) (t : mw_T), mw_W (mw_d3 mw_eI s) 6 kText_spells (15, [(0, .ref 1), (1, .ref (2000 + 6)), (2, .int x2), (4, .int x4)], [], mw_E s t) (r15 x2 x4 t)) : ∀ (x2 : Int32) (x4 : Int32) (t : mw_T), mw_W (mw_d3 mw_eI s) 6 kText_spells (15, [(0, .ref 1), (1, .ref (2000 + 6)), (2, .int x2), (4, .int x4)], [], mw_E s t) (mf_Text_spells_l15B N R r15 6 x2 x4 t) := by
  intro x2 x4 t
  unfold mf_Text_spells_l15B
  exact (mw_go 2 (18, [(0, .ref 1), (1, .ref 2006), (2, .int x2), (4, .int x4)], [.ref 2006, .int x4], mw_E s t) (by with_unfolding_all rfl) (mw_lb (21, [(0, .ref 1), (1, .ref 2006), (2, .int x2), (4, .int x4)], [.int (nI (mj_sc.getD 6 []).length), .int x4], mw_E s t) (by with_unfolding_all rfl) (by omega) (by with_unfolding_all rfl) (mw_l2 24 49 (by with_unfolding_all rfl) (mw_go 4 (29, [(0, .ref 1), (1, .ref 2006), (2, .int x2), (4, .int x4)], [.int (x2 + x4), .ref 1], mw_E s t) (by with_unfolding_all rfl) (mw_cI 32 [.ref 1, .int (x2 + x4)] [] (by with_unfolding_all rfl) (mp_Text_at N R s (x2 + x4) t) (by omega) (fun v1 t1 => (mw_go 2 (35, [(0, .ref 1), (1, .ref 2006), (2, .int x2), (4, .int x4)], [.int x4, .ref 2006, .int v1], mw_E s t1) (by with_unfolding_all rfl) (mw_ch 6 38 (by with_unfolding_all rfl) (by omega) (by with_unfolding_all rfl) (mw_e2 43 41 (by with_unfolding_all rfl) (mw_go 2 (15, [(4, .int (x4 + Int32.ofInt (1))), (0, .ref 1), (1, .ref 2006), (2, .int x2)], [], mw_E s t1) (by with_unfolding_all rfl) (mw_jp [(0, .ref 1), (1, .ref 2006), (2, .int x2), (4, .int (x4 + Int32.ofInt (1)))] (by with_unfolding_all rfl) (by with_unfolding_all rfl) (by with_unfolding_all rfl) (h15 x2 (x4 + Int32.ofInt (1)) t1))) (mw_go 1 (42, [(0, .ref 1), (1, .ref 2006), (2, .int x2), (4, .int x4)], [.int (0 : Int32)], mw_E s t1) (by with_unfolding_all rfl) (mw_ri (by with_unfolding_all rfl) (by with_unfolding_all rfl) rfl)))))))) (mw_go 1 (50, [(0, .ref 1), (1, .ref 2006), (2, .int x2), (4, .int x4)], [.int (1 : Int32)], mw_E s t) (by with_unfolding_all rfl) (mw_ri (by with_unfolding_all rfl) (by with_unfolding_all rfl) rfl)))))
set_option maxRecDepth 100000 in
theorem mp_Text_spells_l15_6 (N R s : Nat) : ∀ (n : Nat), ∀ (x2 : Int32) (x4 : Int32) (t : mw_T), mw_W (mw_d3 mw_eI s) 6 kText_spells (15, [(0, .ref 1), (1, .ref (2000 + 6)), (2, .int x2), (4, .int x4)], [], mw_E s t) (mf_Text_spells_l15 N R 6 n x2 x4 t) := by
  intro n
  induction n with
  | zero => intros; exact mw_no
  | succ n ih => exact mp_Text_spells_l15B_6 N R s (mf_Text_spells_l15 N R 6 n) ih
set_option maxRecDepth 100000 in
theorem mp_Text_spells_6 (N R s : Nat) : ∀ (x2 : Int32) (x3 : Int32) (t : mw_T), mw_W (mw_d3 mw_eI s) 6 kText_spells (0, [(0, .ref 1), (1, .ref (2000 + 6)), (2, .int x2), (3, .int x3)], [], mw_E s t) (mf_Text_spells N R 6 x2 x3 t) := by
  intro x2 x3 t
  unfold mf_Text_spells
  exact (mw_go 1 (1, [(0, .ref 1), (1, .ref 2006), (2, .int x2), (3, .int x3)], [.ref 2006], mw_E s t) (by with_unfolding_all rfl) (mw_lb (4, [(0, .ref 1), (1, .ref 2006), (2, .int x2), (3, .int x3)], [.int (nI (mj_sc.getD 6 []).length)], mw_E s t) (by with_unfolding_all rfl) (by omega) (by with_unfolding_all rfl) (mw_go 3 (7, [(0, .ref 1), (1, .ref 2006), (2, .int x2), (3, .int x3)], [.int (x3 - x2), .int (nI (mj_sc.getD 6 []).length)], mw_E s t) (by with_unfolding_all rfl) (mw_e2 12 10 (by with_unfolding_all rfl) (mw_go 2 (15, [(4, .int (0 : Int32)), (0, .ref 1), (1, .ref 2006), (2, .int x2), (3, .int x3)], [], mw_E s t) (by with_unfolding_all rfl) (mw_jp [(0, .ref 1), (1, .ref 2006), (2, .int x2), (4, .int (0 : Int32))] (by with_unfolding_all rfl) (by with_unfolding_all rfl) (by with_unfolding_all rfl) (mp_Text_spells_l15_6 N R s N x2 (0 : Int32) t))) (mw_go 1 (11, [(0, .ref 1), (1, .ref 2006), (2, .int x2), (3, .int x3)], [.int (0 : Int32)], mw_E s t) (by with_unfolding_all rfl) (mw_ri (by with_unfolding_all rfl) (by with_unfolding_all rfl) rfl))))))
set_option maxRecDepth 100000 in
theorem mp_Text_spells_l15B_7 (N R s : Nat) (r15 : Int32 → Int32 → mw_T → mw_X Int32) (h15 : ∀ (x2 : Int32) (x4 : Int32) (t : mw_T), mw_W (mw_d3 mw_eI s) 6 kText_spells (15, [(0, .ref 1), (1, .ref (2000 + 7)), (2, .int x2), (4, .int x4)], [], mw_E s t) (r15 x2 x4 t)) : ∀ (x2 : Int32) (x4 : Int32) (t : mw_T), mw_W (mw_d3 mw_eI s) 6 kText_spells (15, [(0, .ref 1), (1, .ref (2000 + 7)), (2, .int x2), (4, .int x4)], [], mw_E s t) (mf_Text_spells_l15B N R r15 7 x2 x4 t) := by
  intro x2 x4 t
  unfold mf_Text_spells_l15B
  exact (mw_go 2 (18, [(0, .ref 1), (1, .ref 2007), (2, .int x2), (4, .int x4)], [.ref 2007, .int x4], mw_E s t) (by with_unfolding_all rfl) (mw_lb (21, [(0, .ref 1), (1, .ref 2007), (2, .int x2), (4, .int x4)], [.int (nI (mj_sc.getD 7 []).length), .int x4], mw_E s t) (by with_unfolding_all rfl) (by omega) (by with_unfolding_all rfl) (mw_l2 24 49 (by with_unfolding_all rfl) (mw_go 4 (29, [(0, .ref 1), (1, .ref 2007), (2, .int x2), (4, .int x4)], [.int (x2 + x4), .ref 1], mw_E s t) (by with_unfolding_all rfl) (mw_cI 32 [.ref 1, .int (x2 + x4)] [] (by with_unfolding_all rfl) (mp_Text_at N R s (x2 + x4) t) (by omega) (fun v1 t1 => (mw_go 2 (35, [(0, .ref 1), (1, .ref 2007), (2, .int x2), (4, .int x4)], [.int x4, .ref 2007, .int v1], mw_E s t1) (by with_unfolding_all rfl) (mw_ch 7 38 (by with_unfolding_all rfl) (by omega) (by with_unfolding_all rfl) (mw_e2 43 41 (by with_unfolding_all rfl) (mw_go 2 (15, [(4, .int (x4 + Int32.ofInt (1))), (0, .ref 1), (1, .ref 2007), (2, .int x2)], [], mw_E s t1) (by with_unfolding_all rfl) (mw_jp [(0, .ref 1), (1, .ref 2007), (2, .int x2), (4, .int (x4 + Int32.ofInt (1)))] (by with_unfolding_all rfl) (by with_unfolding_all rfl) (by with_unfolding_all rfl) (h15 x2 (x4 + Int32.ofInt (1)) t1))) (mw_go 1 (42, [(0, .ref 1), (1, .ref 2007), (2, .int x2), (4, .int x4)], [.int (0 : Int32)], mw_E s t1) (by with_unfolding_all rfl) (mw_ri (by with_unfolding_all rfl) (by with_unfolding_all rfl) rfl)))))))) (mw_go 1 (50, [(0, .ref 1), (1, .ref 2007), (2, .int x2), (4, .int x4)], [.int (1 : Int32)], mw_E s t) (by with_unfolding_all rfl) (mw_ri (by with_unfolding_all rfl) (by with_unfolding_all rfl) rfl)))))
set_option maxRecDepth 100000 in
theorem mp_Text_spells_l15_7 (N R s : Nat) : ∀ (n : Nat), ∀ (x2 : Int32) (x4 : Int32) (t : mw_T), mw_W (mw_d3 mw_eI s) 6 kText_spells (15, [(0, .ref 1), (1, .ref (2000 + 7)), (2, .int x2), (4, .int x4)], [], mw_E s t) (mf_Text_spells_l15 N R 7 n x2 x4 t) := by
  intro n
  induction n with
  | zero => intros; exact mw_no
  | succ n ih => exact mp_Text_spells_l15B_7 N R s (mf_Text_spells_l15 N R 7 n) ih
set_option maxRecDepth 100000 in
theorem mp_Text_spells_7 (N R s : Nat) : ∀ (x2 : Int32) (x3 : Int32) (t : mw_T), mw_W (mw_d3 mw_eI s) 6 kText_spells (0, [(0, .ref 1), (1, .ref (2000 + 7)), (2, .int x2), (3, .int x3)], [], mw_E s t) (mf_Text_spells N R 7 x2 x3 t) := by
  intro x2 x3 t
  unfold mf_Text_spells
  exact (mw_go 1 (1, [(0, .ref 1), (1, .ref 2007), (2, .int x2), (3, .int x3)], [.ref 2007], mw_E s t) (by with_unfolding_all rfl) (mw_lb (4, [(0, .ref 1), (1, .ref 2007), (2, .int x2), (3, .int x3)], [.int (nI (mj_sc.getD 7 []).length)], mw_E s t) (by with_unfolding_all rfl) (by omega) (by with_unfolding_all rfl) (mw_go 3 (7, [(0, .ref 1), (1, .ref 2007), (2, .int x2), (3, .int x3)], [.int (x3 - x2), .int (nI (mj_sc.getD 7 []).length)], mw_E s t) (by with_unfolding_all rfl) (mw_e2 12 10 (by with_unfolding_all rfl) (mw_go 2 (15, [(4, .int (0 : Int32)), (0, .ref 1), (1, .ref 2007), (2, .int x2), (3, .int x3)], [], mw_E s t) (by with_unfolding_all rfl) (mw_jp [(0, .ref 1), (1, .ref 2007), (2, .int x2), (4, .int (0 : Int32))] (by with_unfolding_all rfl) (by with_unfolding_all rfl) (by with_unfolding_all rfl) (mp_Text_spells_l15_7 N R s N x2 (0 : Int32) t))) (mw_go 1 (11, [(0, .ref 1), (1, .ref 2007), (2, .int x2), (3, .int x3)], [.int (0 : Int32)], mw_E s t) (by with_unfolding_all rfl) (mw_ri (by with_unfolding_all rfl) (by with_unfolding_all rfl) rfl))))))
set_option maxRecDepth 100000 in
theorem mp_Text_spells_l15B_8 (N R s : Nat) (r15 : Int32 → Int32 → mw_T → mw_X Int32) (h15 : ∀ (x2 : Int32) (x4 : Int32) (t : mw_T), mw_W (mw_d3 mw_eI s) 6 kText_spells (15, [(0, .ref 1), (1, .ref (2000 + 8)), (2, .int x2), (4, .int x4)], [], mw_E s t) (r15 x2 x4 t)) : ∀ (x2 : Int32) (x4 : Int32) (t : mw_T), mw_W (mw_d3 mw_eI s) 6 kText_spells (15, [(0, .ref 1), (1, .ref (2000 + 8)), (2, .int x2), (4, .int x4)], [], mw_E s t) (mf_Text_spells_l15B N R r15 8 x2 x4 t) := by
  intro x2 x4 t
  unfold mf_Text_spells_l15B
  exact (mw_go 2 (18, [(0, .ref 1), (1, .ref 2008), (2, .int x2), (4, .int x4)], [.ref 2008, .int x4], mw_E s t) (by with_unfolding_all rfl) (mw_lb (21, [(0, .ref 1), (1, .ref 2008), (2, .int x2), (4, .int x4)], [.int (nI (mj_sc.getD 8 []).length), .int x4], mw_E s t) (by with_unfolding_all rfl) (by omega) (by with_unfolding_all rfl) (mw_l2 24 49 (by with_unfolding_all rfl) (mw_go 4 (29, [(0, .ref 1), (1, .ref 2008), (2, .int x2), (4, .int x4)], [.int (x2 + x4), .ref 1], mw_E s t) (by with_unfolding_all rfl) (mw_cI 32 [.ref 1, .int (x2 + x4)] [] (by with_unfolding_all rfl) (mp_Text_at N R s (x2 + x4) t) (by omega) (fun v1 t1 => (mw_go 2 (35, [(0, .ref 1), (1, .ref 2008), (2, .int x2), (4, .int x4)], [.int x4, .ref 2008, .int v1], mw_E s t1) (by with_unfolding_all rfl) (mw_ch 8 38 (by with_unfolding_all rfl) (by omega) (by with_unfolding_all rfl) (mw_e2 43 41 (by with_unfolding_all rfl) (mw_go 2 (15, [(4, .int (x4 + Int32.ofInt (1))), (0, .ref 1), (1, .ref 2008), (2, .int x2)], [], mw_E s t1) (by with_unfolding_all rfl) (mw_jp [(0, .ref 1), (1, .ref 2008), (2, .int x2), (4, .int (x4 + Int32.ofInt (1)))] (by with_unfolding_all rfl) (by with_unfolding_all rfl) (by with_unfolding_all rfl) (h15 x2 (x4 + Int32.ofInt (1)) t1))) (mw_go 1 (42, [(0, .ref 1), (1, .ref 2008), (2, .int x2), (4, .int x4)], [.int (0 : Int32)], mw_E s t1) (by with_unfolding_all rfl) (mw_ri (by with_unfolding_all rfl) (by with_unfolding_all rfl) rfl)))))))) (mw_go 1 (50, [(0, .ref 1), (1, .ref 2008), (2, .int x2), (4, .int x4)], [.int (1 : Int32)], mw_E s t) (by with_unfolding_all rfl) (mw_ri (by with_unfolding_all rfl) (by with_unfolding_all rfl) rfl)))))
set_option maxRecDepth 100000 in
theorem mp_Text_spells_l15_8 (N R s : Nat) : ∀ (n : Nat), ∀ (x2 : Int32) (x4 : Int32) (t : mw_T), mw_W (mw_d3 mw_eI s) 6 kText_spells (15, [(0, .ref 1), (1, .ref (2000 + 8)), (2, .int x2), (4, .int x4)], [], mw_E s t) (mf_Text_spells_l15 N R 8 n x2 x4 t) := by
  intro n
  induction n with
  | zero => intros; exact mw_no
  | succ n ih => exact mp_Text_spells_l15B_8 N R s (mf_Text_spells_l15 N R 8 n) ih
set_option maxRecDepth 100000 in
theorem mp_Text_spells_8 (N R s : Nat) : ∀ (x2 : Int32) (x3 : Int32) (t : mw_T), mw_W (mw_d3 mw_eI s) 6 kText_spells (0, [(0, .ref 1), (1, .ref (2000 + 8)), (2, .int x2), (3, .int x3)], [], mw_E s t) (mf_Text_spells N R 8 x2 x3 t) := by
  intro x2 x3 t
  unfold mf_Text_spells
  exact (mw_go 1 (1, [(0, .ref 1), (1, .ref 2008), (2, .int x2), (3, .int x3)], [.ref 2008], mw_E s t) (by with_unfolding_all rfl) (mw_lb (4, [(0, .ref 1), (1, .ref 2008), (2, .int x2), (3, .int x3)], [.int (nI (mj_sc.getD 8 []).length)], mw_E s t) (by with_unfolding_all rfl) (by omega) (by with_unfolding_all rfl) (mw_go 3 (7, [(0, .ref 1), (1, .ref 2008), (2, .int x2), (3, .int x3)], [.int (x3 - x2), .int (nI (mj_sc.getD 8 []).length)], mw_E s t) (by with_unfolding_all rfl) (mw_e2 12 10 (by with_unfolding_all rfl) (mw_go 2 (15, [(4, .int (0 : Int32)), (0, .ref 1), (1, .ref 2008), (2, .int x2), (3, .int x3)], [], mw_E s t) (by with_unfolding_all rfl) (mw_jp [(0, .ref 1), (1, .ref 2008), (2, .int x2), (4, .int (0 : Int32))] (by with_unfolding_all rfl) (by with_unfolding_all rfl) (by with_unfolding_all rfl) (mp_Text_spells_l15_8 N R s N x2 (0 : Int32) t))) (mw_go 1 (11, [(0, .ref 1), (1, .ref 2008), (2, .int x2), (3, .int x3)], [.int (0 : Int32)], mw_E s t) (by with_unfolding_all rfl) (mw_ri (by with_unfolding_all rfl) (by with_unfolding_all rfl) rfl))))))
set_option maxRecDepth 100000 in
theorem mp_Text_spells_l15B_9 (N R s : Nat) (r15 : Int32 → Int32 → mw_T → mw_X Int32) (h15 : ∀ (x2 : Int32) (x4 : Int32) (t : mw_T), mw_W (mw_d3 mw_eI s) 6 kText_spells (15, [(0, .ref 1), (1, .ref (2000 + 9)), (2, .int x2), (4, .int x4)], [], mw_E s t) (r15 x2 x4 t)) : ∀ (x2 : Int32) (x4 : Int32) (t : mw_T), mw_W (mw_d3 mw_eI s) 6 kText_spells (15, [(0, .ref 1), (1, .ref (2000 + 9)), (2, .int x2), (4, .int x4)], [], mw_E s t) (mf_Text_spells_l15B N R r15 9 x2 x4 t) := by
  intro x2 x4 t
  unfold mf_Text_spells_l15B
  exact (mw_go 2 (18, [(0, .ref 1), (1, .ref 2009), (2, .int x2), (4, .int x4)], [.ref 2009, .int x4], mw_E s t) (by with_unfolding_all rfl) (mw_lb (21, [(0, .ref 1), (1, .ref 2009), (2, .int x2), (4, .int x4)], [.int (nI (mj_sc.getD 9 []).length), .int x4], mw_E s t) (by with_unfolding_all rfl) (by omega) (by with_unfolding_all rfl) (mw_l2 24 49 (by with_unfolding_all rfl) (mw_go 4 (29, [(0, .ref 1), (1, .ref 2009), (2, .int x2), (4, .int x4)], [.int (x2 + x4), .ref 1], mw_E s t) (by with_unfolding_all rfl) (mw_cI 32 [.ref 1, .int (x2 + x4)] [] (by with_unfolding_all rfl) (mp_Text_at N R s (x2 + x4) t) (by omega) (fun v1 t1 => (mw_go 2 (35, [(0, .ref 1), (1, .ref 2009), (2, .int x2), (4, .int x4)], [.int x4, .ref 2009, .int v1], mw_E s t1) (by with_unfolding_all rfl) (mw_ch 9 38 (by with_unfolding_all rfl) (by omega) (by with_unfolding_all rfl) (mw_e2 43 41 (by with_unfolding_all rfl) (mw_go 2 (15, [(4, .int (x4 + Int32.ofInt (1))), (0, .ref 1), (1, .ref 2009), (2, .int x2)], [], mw_E s t1) (by with_unfolding_all rfl) (mw_jp [(0, .ref 1), (1, .ref 2009), (2, .int x2), (4, .int (x4 + Int32.ofInt (1)))] (by with_unfolding_all rfl) (by with_unfolding_all rfl) (by with_unfolding_all rfl) (h15 x2 (x4 + Int32.ofInt (1)) t1))) (mw_go 1 (42, [(0, .ref 1), (1, .ref 2009), (2, .int x2), (4, .int x4)], [.int (0 : Int32)], mw_E s t1) (by with_unfolding_all rfl) (mw_ri (by with_unfolding_all rfl) (by with_unfolding_all rfl) rfl)))))))) (mw_go 1 (50, [(0, .ref 1), (1, .ref 2009), (2, .int x2), (4, .int x4)], [.int (1 : Int32)], mw_E s t) (by with_unfolding_all rfl) (mw_ri (by with_unfolding_all rfl) (by with_unfolding_all rfl) rfl)))))
set_option maxRecDepth 100000 in
theorem mp_Text_spells_l15_9 (N R s : Nat) : ∀ (n : Nat), ∀ (x2 : Int32) (x4 : Int32) (t : mw_T), mw_W (mw_d3 mw_eI s) 6 kText_spells (15, [(0, .ref 1), (1, .ref (2000 + 9)), (2, .int x2), (4, .int x4)], [], mw_E s t) (mf_Text_spells_l15 N R 9 n x2 x4 t) := by
  intro n
  induction n with
  | zero => intros; exact mw_no
  | succ n ih => exact mp_Text_spells_l15B_9 N R s (mf_Text_spells_l15 N R 9 n) ih
set_option maxRecDepth 100000 in
theorem mp_Text_spells_9 (N R s : Nat) : ∀ (x2 : Int32) (x3 : Int32) (t : mw_T), mw_W (mw_d3 mw_eI s) 6 kText_spells (0, [(0, .ref 1), (1, .ref (2000 + 9)), (2, .int x2), (3, .int x3)], [], mw_E s t) (mf_Text_spells N R 9 x2 x3 t) := by
  intro x2 x3 t
  unfold mf_Text_spells
  exact (mw_go 1 (1, [(0, .ref 1), (1, .ref 2009), (2, .int x2), (3, .int x3)], [.ref 2009], mw_E s t) (by with_unfolding_all rfl) (mw_lb (4, [(0, .ref 1), (1, .ref 2009), (2, .int x2), (3, .int x3)], [.int (nI (mj_sc.getD 9 []).length)], mw_E s t) (by with_unfolding_all rfl) (by omega) (by with_unfolding_all rfl) (mw_go 3 (7, [(0, .ref 1), (1, .ref 2009), (2, .int x2), (3, .int x3)], [.int (x3 - x2), .int (nI (mj_sc.getD 9 []).length)], mw_E s t) (by with_unfolding_all rfl) (mw_e2 12 10 (by with_unfolding_all rfl) (mw_go 2 (15, [(4, .int (0 : Int32)), (0, .ref 1), (1, .ref 2009), (2, .int x2), (3, .int x3)], [], mw_E s t) (by with_unfolding_all rfl) (mw_jp [(0, .ref 1), (1, .ref 2009), (2, .int x2), (4, .int (0 : Int32))] (by with_unfolding_all rfl) (by with_unfolding_all rfl) (by with_unfolding_all rfl) (mp_Text_spells_l15_9 N R s N x2 (0 : Int32) t))) (mw_go 1 (11, [(0, .ref 1), (1, .ref 2009), (2, .int x2), (3, .int x3)], [.int (0 : Int32)], mw_E s t) (by with_unfolding_all rfl) (mw_ri (by with_unfolding_all rfl) (by with_unfolding_all rfl) rfl))))))
set_option maxRecDepth 100000 in
theorem mp_Text_spells_l15B_10 (N R s : Nat) (r15 : Int32 → Int32 → mw_T → mw_X Int32) (h15 : ∀ (x2 : Int32) (x4 : Int32) (t : mw_T), mw_W (mw_d3 mw_eI s) 6 kText_spells (15, [(0, .ref 1), (1, .ref (2000 + 10)), (2, .int x2), (4, .int x4)], [], mw_E s t) (r15 x2 x4 t)) : ∀ (x2 : Int32) (x4 : Int32) (t : mw_T), mw_W (mw_d3 mw_eI s) 6 kText_spells (15, [(0, .ref 1), (1, .ref (2000 + 10)), (2, .int x2), (4, .int x4)], [], mw_E s t) (mf_Text_spells_l15B N R r15 10 x2 x4 t) := by
  intro x2 x4 t
  unfold mf_Text_spells_l15B
  exact (mw_go 2 (18, [(0, .ref 1), (1, .ref 2010), (2, .int x2), (4, .int x4)], [.ref 2010, .int x4], mw_E s t) (by with_unfolding_all rfl) (mw_lb (21, [(0, .ref 1), (1, .ref 2010), (2, .int x2), (4, .int x4)], [.int (nI (mj_sc.getD 10 []).length), .int x4], mw_E s t) (by with_unfolding_all rfl) (by omega) (by with_unfolding_all rfl) (mw_l2 24 49 (by with_unfolding_all rfl) (mw_go 4 (29, [(0, .ref 1), (1, .ref 2010), (2, .int x2), (4, .int x4)], [.int (x2 + x4), .ref 1], mw_E s t) (by with_unfolding_all rfl) (mw_cI 32 [.ref 1, .int (x2 + x4)] [] (by with_unfolding_all rfl) (mp_Text_at N R s (x2 + x4) t) (by omega) (fun v1 t1 => (mw_go 2 (35, [(0, .ref 1), (1, .ref 2010), (2, .int x2), (4, .int x4)], [.int x4, .ref 2010, .int v1], mw_E s t1) (by with_unfolding_all rfl) (mw_ch 10 38 (by with_unfolding_all rfl) (by omega) (by with_unfolding_all rfl) (mw_e2 43 41 (by with_unfolding_all rfl) (mw_go 2 (15, [(4, .int (x4 + Int32.ofInt (1))), (0, .ref 1), (1, .ref 2010), (2, .int x2)], [], mw_E s t1) (by with_unfolding_all rfl) (mw_jp [(0, .ref 1), (1, .ref 2010), (2, .int x2), (4, .int (x4 + Int32.ofInt (1)))] (by with_unfolding_all rfl) (by with_unfolding_all rfl) (by with_unfolding_all rfl) (h15 x2 (x4 + Int32.ofInt (1)) t1))) (mw_go 1 (42, [(0, .ref 1), (1, .ref 2010), (2, .int x2), (4, .int x4)], [.int (0 : Int32)], mw_E s t1) (by with_unfolding_all rfl) (mw_ri (by with_unfolding_all rfl) (by with_unfolding_all rfl) rfl)))))))) (mw_go 1 (50, [(0, .ref 1), (1, .ref 2010), (2, .int x2), (4, .int x4)], [.int (1 : Int32)], mw_E s t) (by with_unfolding_all rfl) (mw_ri (by with_unfolding_all rfl) (by with_unfolding_all rfl) rfl)))))
set_option maxRecDepth 100000 in
theorem mp_Text_spells_l15_10 (N R s : Nat) : ∀ (n : Nat), ∀ (x2 : Int32) (x4 : Int32) (t : mw_T), mw_W (mw_d3 mw_eI s) 6 kText_spells (15, [(0, .ref 1), (1, .ref (2000 + 10)), (2, .int x2), (4, .int x4)], [], mw_E s t) (mf_Text_spells_l15 N R 10 n x2 x4 t) := by
  intro n
  induction n with
  | zero => intros; exact mw_no
  | succ n ih => exact mp_Text_spells_l15B_10 N R s (mf_Text_spells_l15 N R 10 n) ih
set_option maxRecDepth 100000 in
theorem mp_Text_spells_10 (N R s : Nat) : ∀ (x2 : Int32) (x3 : Int32) (t : mw_T), mw_W (mw_d3 mw_eI s) 6 kText_spells (0, [(0, .ref 1), (1, .ref (2000 + 10)), (2, .int x2), (3, .int x3)], [], mw_E s t) (mf_Text_spells N R 10 x2 x3 t) := by
  intro x2 x3 t
  unfold mf_Text_spells
  exact (mw_go 1 (1, [(0, .ref 1), (1, .ref 2010), (2, .int x2), (3, .int x3)], [.ref 2010], mw_E s t) (by with_unfolding_all rfl) (mw_lb (4, [(0, .ref 1), (1, .ref 2010), (2, .int x2), (3, .int x3)], [.int (nI (mj_sc.getD 10 []).length)], mw_E s t) (by with_unfolding_all rfl) (by omega) (by with_unfolding_all rfl) (mw_go 3 (7, [(0, .ref 1), (1, .ref 2010), (2, .int x2), (3, .int x3)], [.int (x3 - x2), .int (nI (mj_sc.getD 10 []).length)], mw_E s t) (by with_unfolding_all rfl) (mw_e2 12 10 (by with_unfolding_all rfl) (mw_go 2 (15, [(4, .int (0 : Int32)), (0, .ref 1), (1, .ref 2010), (2, .int x2), (3, .int x3)], [], mw_E s t) (by with_unfolding_all rfl) (mw_jp [(0, .ref 1), (1, .ref 2010), (2, .int x2), (4, .int (0 : Int32))] (by with_unfolding_all rfl) (by with_unfolding_all rfl) (by with_unfolding_all rfl) (mp_Text_spells_l15_10 N R s N x2 (0 : Int32) t))) (mw_go 1 (11, [(0, .ref 1), (1, .ref 2010), (2, .int x2), (3, .int x3)], [.int (0 : Int32)], mw_E s t) (by with_unfolding_all rfl) (mw_ri (by with_unfolding_all rfl) (by with_unfolding_all rfl) rfl))))))
set_option maxRecDepth 100000 in
theorem mp_Text_spells_l15B_11 (N R s : Nat) (r15 : Int32 → Int32 → mw_T → mw_X Int32) (h15 : ∀ (x2 : Int32) (x4 : Int32) (t : mw_T), mw_W (mw_d3 mw_eI s) 6 kText_spells (15, [(0, .ref 1), (1, .ref (2000 + 11)), (2, .int x2), (4, .int x4)], [], mw_E s t) (r15 x2 x4 t)) : ∀ (x2 : Int32) (x4 : Int32) (t : mw_T), mw_W (mw_d3 mw_eI s) 6 kText_spells (15, [(0, .ref 1), (1, .ref (2000 + 11)), (2, .int x2), (4, .int x4)], [], mw_E s t) (mf_Text_spells_l15B N R r15 11 x2 x4 t) := by
  intro x2 x4 t
  unfold mf_Text_spells_l15B
  exact (mw_go 2 (18, [(0, .ref 1), (1, .ref 2011), (2, .int x2), (4, .int x4)], [.ref 2011, .int x4], mw_E s t) (by with_unfolding_all rfl) (mw_lb (21, [(0, .ref 1), (1, .ref 2011), (2, .int x2), (4, .int x4)], [.int (nI (mj_sc.getD 11 []).length), .int x4], mw_E s t) (by with_unfolding_all rfl) (by omega) (by with_unfolding_all rfl) (mw_l2 24 49 (by with_unfolding_all rfl) (mw_go 4 (29, [(0, .ref 1), (1, .ref 2011), (2, .int x2), (4, .int x4)], [.int (x2 + x4), .ref 1], mw_E s t) (by with_unfolding_all rfl) (mw_cI 32 [.ref 1, .int (x2 + x4)] [] (by with_unfolding_all rfl) (mp_Text_at N R s (x2 + x4) t) (by omega) (fun v1 t1 => (mw_go 2 (35, [(0, .ref 1), (1, .ref 2011), (2, .int x2), (4, .int x4)], [.int x4, .ref 2011, .int v1], mw_E s t1) (by with_unfolding_all rfl) (mw_ch 11 38 (by with_unfolding_all rfl) (by omega) (by with_unfolding_all rfl) (mw_e2 43 41 (by with_unfolding_all rfl) (mw_go 2 (15, [(4, .int (x4 + Int32.ofInt (1))), (0, .ref 1), (1, .ref 2011), (2, .int x2)], [], mw_E s t1) (by with_unfolding_all rfl) (mw_jp [(0, .ref 1), (1, .ref 2011), (2, .int x2), (4, .int (x4 + Int32.ofInt (1)))] (by with_unfolding_all rfl) (by with_unfolding_all rfl) (by with_unfolding_all rfl) (h15 x2 (x4 + Int32.ofInt (1)) t1))) (mw_go 1 (42, [(0, .ref 1), (1, .ref 2011), (2, .int x2), (4, .int x4)], [.int (0 : Int32)], mw_E s t1) (by with_unfolding_all rfl) (mw_ri (by with_unfolding_all rfl) (by with_unfolding_all rfl) rfl)))))))) (mw_go 1 (50, [(0, .ref 1), (1, .ref 2011), (2, .int x2), (4, .int x4)], [.int (1 : Int32)], mw_E s t) (by with_unfolding_all rfl) (mw_ri (by with_unfolding_all rfl) (by with_unfolding_all rfl) rfl)))))
set_option maxRecDepth 100000 in
theorem mp_Text_spells_l15_11 (N R s : Nat) : ∀ (n : Nat), ∀ (x2 : Int32) (x4 : Int32) (t : mw_T), mw_W (mw_d3 mw_eI s) 6 kText_spells (15, [(0, .ref 1), (1, .ref (2000 + 11)), (2, .int x2), (4, .int x4)], [], mw_E s t) (mf_Text_spells_l15 N R 11 n x2 x4 t) := by
  intro n
  induction n with
  | zero => intros; exact mw_no
  | succ n ih => exact mp_Text_spells_l15B_11 N R s (mf_Text_spells_l15 N R 11 n) ih
set_option maxRecDepth 100000 in
theorem mp_Text_spells_11 (N R s : Nat) : ∀ (x2 : Int32) (x3 : Int32) (t : mw_T), mw_W (mw_d3 mw_eI s) 6 kText_spells (0, [(0, .ref 1), (1, .ref (2000 + 11)), (2, .int x2), (3, .int x3)], [], mw_E s t) (mf_Text_spells N R 11 x2 x3 t) := by
  intro x2 x3 t
  unfold mf_Text_spells
  exact (mw_go 1 (1, [(0, .ref 1), (1, .ref 2011), (2, .int x2), (3, .int x3)], [.ref 2011], mw_E s t) (by with_unfolding_all rfl) (mw_lb (4, [(0, .ref 1), (1, .ref 2011), (2, .int x2), (3, .int x3)], [.int (nI (mj_sc.getD 11 []).length)], mw_E s t) (by with_unfolding_all rfl) (by omega) (by with_unfolding_all rfl) (mw_go 3 (7, [(0, .ref 1), (1, .ref 2011), (2, .int x2), (3, .int x3)], [.int (x3 - x2), .int (nI (mj_sc.getD 11 []).length)], mw_E s t) (by with_unfolding_all rfl) (mw_e2 12 10 (by with_unfolding_all rfl) (mw_go 2 (15, [(4, .int (0 : Int32)), (0, .ref 1), (1, .ref 2011), (2, .int x2), (3, .int x3)], [], mw_E s t) (by with_unfolding_all rfl) (mw_jp [(0, .ref 1), (1, .ref 2011), (2, .int x2), (4, .int (0 : Int32))] (by with_unfolding_all rfl) (by with_unfolding_all rfl) (by with_unfolding_all rfl) (mp_Text_spells_l15_11 N R s N x2 (0 : Int32) t))) (mw_go 1 (11, [(0, .ref 1), (1, .ref 2011), (2, .int x2), (3, .int x3)], [.int (0 : Int32)], mw_E s t) (by with_unfolding_all rfl) (mw_ri (by with_unfolding_all rfl) (by with_unfolding_all rfl) rfl))))))
set_option maxRecDepth 100000 in
theorem mp_Text_spells_l15B_12 (N R s : Nat) (r15 : Int32 → Int32 → mw_T → mw_X Int32) (h15 : ∀ (x2 : Int32) (x4 : Int32) (t : mw_T), mw_W (mw_d3 mw_eI s) 6 kText_spells (15, [(0, .ref 1), (1, .ref (2000 + 12)), (2, .int x2), (4, .int x4)], [], mw_E s t) (r15 x2 x4 t)) : ∀ (x2 : Int32) (x4 : Int32) (t : mw_T), mw_W (mw_d3 mw_eI s) 6 kText_spells (15, [(0, .ref 1), (1, .ref (2000 + 12)), (2, .int x2), (4, .int x4)], [], mw_E s t) (mf_Text_spells_l15B N R r15 12 x2 x4 t) := by
  intro x2 x4 t
  unfold mf_Text_spells_l15B
  exact (mw_go 2 (18, [(0, .ref 1), (1, .ref 2012), (2, .int x2), (4, .int x4)], [.ref 2012, .int x4], mw_E s t) (by with_unfolding_all rfl) (mw_lb (21, [(0, .ref 1), (1, .ref 2012), (2, .int x2), (4, .int x4)], [.int (nI (mj_sc.getD 12 []).length), .int x4], mw_E s t) (by with_unfolding_all rfl) (by omega) (by with_unfolding_all rfl) (mw_l2 24 49 (by with_unfolding_all rfl) (mw_go 4 (29, [(0, .ref 1), (1, .ref 2012), (2, .int x2), (4, .int x4)], [.int (x2 + x4), .ref 1], mw_E s t) (by with_unfolding_all rfl) (mw_cI 32 [.ref 1, .int (x2 + x4)] [] (by with_unfolding_all rfl) (mp_Text_at N R s (x2 + x4) t) (by omega) (fun v1 t1 => (mw_go 2 (35, [(0, .ref 1), (1, .ref 2012), (2, .int x2), (4, .int x4)], [.int x4, .ref 2012, .int v1], mw_E s t1) (by with_unfolding_all rfl) (mw_ch 12 38 (by with_unfolding_all rfl) (by omega) (by with_unfolding_all rfl) (mw_e2 43 41 (by with_unfolding_all rfl) (mw_go 2 (15, [(4, .int (x4 + Int32.ofInt (1))), (0, .ref 1), (1, .ref 2012), (2, .int x2)], [], mw_E s t1) (by with_unfolding_all rfl) (mw_jp [(0, .ref 1), (1, .ref 2012), (2, .int x2), (4, .int (x4 + Int32.ofInt (1)))] (by with_unfolding_all rfl) (by with_unfolding_all rfl) (by with_unfolding_all rfl) (h15 x2 (x4 + Int32.ofInt (1)) t1))) (mw_go 1 (42, [(0, .ref 1), (1, .ref 2012), (2, .int x2), (4, .int x4)], [.int (0 : Int32)], mw_E s t1) (by with_unfolding_all rfl) (mw_ri (by with_unfolding_all rfl) (by with_unfolding_all rfl) rfl)))))))) (mw_go 1 (50, [(0, .ref 1), (1, .ref 2012), (2, .int x2), (4, .int x4)], [.int (1 : Int32)], mw_E s t) (by with_unfolding_all rfl) (mw_ri (by with_unfolding_all rfl) (by with_unfolding_all rfl) rfl)))))
set_option maxRecDepth 100000 in
theorem mp_Text_spells_l15_12 (N R s : Nat) : ∀ (n : Nat), ∀ (x2 : Int32) (x4 : Int32) (t : mw_T), mw_W (mw_d3 mw_eI s) 6 kText_spells (15, [(0, .ref 1), (1, .ref (2000 + 12)), (2, .int x2), (4, .int x4)], [], mw_E s t) (mf_Text_spells_l15 N R 12 n x2 x4 t) := by
  intro n
  induction n with
  | zero => intros; exact mw_no
  | succ n ih => exact mp_Text_spells_l15B_12 N R s (mf_Text_spells_l15 N R 12 n) ih
set_option maxRecDepth 100000 in
theorem mp_Text_spells_12 (N R s : Nat) : ∀ (x2 : Int32) (x3 : Int32) (t : mw_T), mw_W (mw_d3 mw_eI s) 6 kText_spells (0, [(0, .ref 1), (1, .ref (2000 + 12)), (2, .int x2), (3, .int x3)], [], mw_E s t) (mf_Text_spells N R 12 x2 x3 t) := by
  intro x2 x3 t
  unfold mf_Text_spells
  exact (mw_go 1 (1, [(0, .ref 1), (1, .ref 2012), (2, .int x2), (3, .int x3)], [.ref 2012], mw_E s t) (by with_unfolding_all rfl) (mw_lb (4, [(0, .ref 1), (1, .ref 2012), (2, .int x2), (3, .int x3)], [.int (nI (mj_sc.getD 12 []).length)], mw_E s t) (by with_unfolding_all rfl) (by omega) (by with_unfolding_all rfl) (mw_go 3 (7, [(0, .ref 1), (1, .ref 2012), (2, .int x2), (3, .int x3)], [.int (x3 - x2), .int (nI (mj_sc.getD 12 []).length)], mw_E s t) (by with_unfolding_all rfl) (mw_e2 12 10 (by with_unfolding_all rfl) (mw_go 2 (15, [(4, .int (0 : Int32)), (0, .ref 1), (1, .ref 2012), (2, .int x2), (3, .int x3)], [], mw_E s t) (by with_unfolding_all rfl) (mw_jp [(0, .ref 1), (1, .ref 2012), (2, .int x2), (4, .int (0 : Int32))] (by with_unfolding_all rfl) (by with_unfolding_all rfl) (by with_unfolding_all rfl) (mp_Text_spells_l15_12 N R s N x2 (0 : Int32) t))) (mw_go 1 (11, [(0, .ref 1), (1, .ref 2012), (2, .int x2), (3, .int x3)], [.int (0 : Int32)], mw_E s t) (by with_unfolding_all rfl) (mw_ri (by with_unfolding_all rfl) (by with_unfolding_all rfl) rfl))))))
theorem mg_Text_spells_l15B (N R : Nat) (w : Nat) (r15 : Int32 → Int32 → mw_T → mw_X Int32) (g15 : ∀ (x2 : Int32) (x4 : Int32) (t : mw_T), mw_F [] 0 [] t (r15 x2 x4 t)) : ∀ (x2 : Int32) (x4 : Int32) (t : mw_T), mw_F [] 0 [] t (mf_Text_spells_l15B N R r15 w x2 x4 t) := by
  intro x2 x4 t
  exact (mg_if (mg_b mg_rf (mg_Text_at N R (x2 + x4) t) (mw_lq0 (by rfl)) (fun v1 t1 e1 => (mg_gd (mg_if (mg_jp e1 (g15 x2 (x4 + Int32.ofInt (1)) t1)) (mg_rt e1))))) (mg_rt mg_rf))
theorem mg_Text_spells_l15 (N R : Nat) (w : Nat) : ∀ (n : Nat), ∀ (x2 : Int32) (x4 : Int32) (t : mw_T), mw_F [] 0 [] t (mf_Text_spells_l15 N R w n x2 x4 t) := by
  intro n
  induction n with
  | zero => intros; exact mg_no
  | succ n ih => exact mg_Text_spells_l15B N R w (mf_Text_spells_l15 N R w n) ih
theorem mg_Text_spells (N R : Nat) (w : Nat) : ∀ (x2 : Int32) (x3 : Int32) (t : mw_T), mw_F [] 0 [] t (mf_Text_spells N R w x2 x3 t) := by
  intro x2 x3 t
  exact (mg_if (mg_jp mg_rf (mg_Text_spells_l15 N R w N x2 (0 : Int32) t)) (mg_rt mg_rf))
