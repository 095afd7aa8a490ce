/-! DECOMPILED 7: the functions, and that the bytecode does what they say (written by wip/whole/dec.py) -/
def mf_Model_isDigit (N R : Nat) (x0 : Int32) (t : mw_T) : mw_X Int32 :=
  (if x0 < (48 : Int32) then (some (.inl (0 : Int32), t)) else (if (57 : Int32) < x0 then (some (.inl (0 : Int32), t)) else (some (.inl (1 : Int32), t))))
set_option maxRecDepth 100000 in
theorem mp_Model_isDigit (N R s : Nat) : ∀ (x0 : Int32) (t : mw_T), mw_W (mw_d3 mw_eI s) 0 kModel_isDigit (0, [(0, .int x0)], [], mw_E s t) (mf_Model_isDigit N R x0 t) := by
  intro x0 t
  unfold mf_Model_isDigit
  exact (mw_go 2 (3, [(0, .int x0)], [.int (48 : Int32), .int x0], mw_E s t) (by with_unfolding_all rfl) (mw_l2 16 6 (by with_unfolding_all rfl) (mw_go 1 (17, [(0, .int x0)], [.int (0 : Int32)], mw_E s t) (by with_unfolding_all rfl) (mw_ri (by with_unfolding_all rfl) (by with_unfolding_all rfl) rfl)) (mw_go 2 (9, [(0, .int x0)], [.int (57 : Int32), .int x0], mw_E s t) (by with_unfolding_all rfl) (mw_g2 16 12 (by with_unfolding_all rfl) (mw_go 1 (17, [(0, .int x0)], [.int (0 : Int32)], mw_E s t) (by with_unfolding_all rfl) (mw_ri (by with_unfolding_all rfl) (by with_unfolding_all rfl) rfl)) (mw_go 2 (17, [(0, .int x0)], [.int (1 : Int32)], mw_E s t) (by with_unfolding_all rfl) (mw_ri (by with_unfolding_all rfl) (by with_unfolding_all rfl) rfl))))))
theorem mg_Model_isDigit (N R : Nat) : ∀ (x0 : Int32) (t : mw_T), mw_F [] 0 [] t (mf_Model_isDigit N R x0 t) := by
  intro x0 t
  exact (mg_if (mg_rt mg_rf) (mg_if (mg_rt mg_rf) (mg_rt mg_rf)))
def mf_Model_isTwo_b24 (N R : Nat) (x0 : Int32) (x1 : Int32) (t : mw_T) : mw_X Int32 :=
  (if x0 = x1 then (if x0 = (60 : Int32) then (some (.inl (1 : Int32), t)) else (if x0 = (62 : Int32) then (some (.inl (1 : Int32), t)) else (some (.inl (0 : Int32), t)))) else (some (.inl (0 : Int32), t)))
def mf_Model_isTwo (N R : Nat) (x0 : Int32) (x1 : Int32) (t : mw_T) : mw_X Int32 :=
  (if x1 = (61 : Int32) then (if x0 = (33 : Int32) then (some (.inl (1 : Int32), t)) else (if x0 = (60 : Int32) then (some (.inl (1 : Int32), t)) else (if x0 = (62 : Int32) then (some (.inl (1 : Int32), t)) else (mf_Model_isTwo_b24 N R x0 x1 t)))) else (mf_Model_isTwo_b24 N R x0 x1 t))
set_option maxRecDepth 100000 in
theorem mp_Model_isTwo_b24 (N R s : Nat) : ∀ (x0 : Int32) (x1 : Int32) (t : mw_T), mw_W (mw_d3 mw_eI s) 0 kModel_isTwo (24, [(0, .int x0), (1, .int x1)], [], mw_E s t) (mf_Model_isTwo_b24 N R x0 x1 t) := by
  intro x0 x1 t
  unfold mf_Model_isTwo_b24
  exact (mw_go 2 (26, [(0, .int x0), (1, .int x1)], [.int x1, .int x0], mw_E s t) (by with_unfolding_all rfl) (mw_e2 29 45 (by with_unfolding_all rfl) (mw_go 2 (32, [(0, .int x0), (1, .int x1)], [.int (60 : Int32), .int x0], mw_E s t) (by with_unfolding_all rfl) (mw_e2 41 35 (by with_unfolding_all rfl) (mw_go 2 (46, [(0, .int x0), (1, .int x1)], [.int (1 : Int32)], mw_E s t) (by with_unfolding_all rfl) (mw_ri (by with_unfolding_all rfl) (by with_unfolding_all rfl) rfl)) (mw_go 2 (38, [(0, .int x0), (1, .int x1)], [.int (62 : Int32), .int x0], mw_E s t) (by with_unfolding_all rfl) (mw_e2 41 45 (by with_unfolding_all rfl) (mw_go 2 (46, [(0, .int x0), (1, .int x1)], [.int (1 : Int32)], mw_E s t) (by with_unfolding_all rfl) (mw_ri (by with_unfolding_all rfl) (by with_unfolding_all rfl) rfl)) (mw_go 1 (46, [(0, .int x0), (1, .int x1)], [.int (0 : Int32)], mw_E s t) (by with_unfolding_all rfl) (mw_ri (by with_unfolding_all rfl) (by with_unfolding_all rfl) rfl)))))) (mw_go 1 (46, [(0, .int x0), (1, .int x1)], [.int (0 : Int32)], mw_E s t) (by with_unfolding_all rfl) (mw_ri (by with_unfolding_all rfl) (by with_unfolding_all rfl) rfl))))
set_option maxRecDepth 100000 in
theorem mp_Model_isTwo (N R s : Nat) : ∀ (x0 : Int32) (x1 : Int32) (t : mw_T), mw_W (mw_d3 mw_eI s) 0 kModel_isTwo (0, [(0, .int x0), (1, .int x1)], [], mw_E s t) (mf_Model_isTwo N R x0 x1 t) := by
  intro x0 x1 t
  unfold mf_Model_isTwo
  exact (mw_go 2 (3, [(0, .int x0), (1, .int x1)], [.int (61 : Int32), .int x1], mw_E s t) (by with_unfolding_all rfl) (mw_e2 6 24 (by with_unfolding_all rfl) (mw_go 2 (9, [(0, .int x0), (1, .int x1)], [.int (33 : Int32), .int x0], mw_E s t) (by with_unfolding_all rfl) (mw_e2 41 12 (by with_unfolding_all rfl) (mw_go 2 (46, [(0, .int x0), (1, .int x1)], [.int (1 : Int32)], mw_E s t) (by with_unfolding_all rfl) (mw_ri (by with_unfolding_all rfl) (by with_unfolding_all rfl) rfl)) (mw_go 2 (15, [(0, .int x0), (1, .int x1)], [.int (60 : Int32), .int x0], mw_E s t) (by with_unfolding_all rfl) (mw_e2 41 18 (by with_unfolding_all rfl) (mw_go 2 (46, [(0, .int x0), (1, .int x1)], [.int (1 : Int32)], mw_E s t) (by with_unfolding_all rfl) (mw_ri (by with_unfolding_all rfl) (by with_unfolding_all rfl) rfl)) (mw_go 2 (21, [(0, .int x0), (1, .int x1)], [.int (62 : Int32), .int x0], mw_E s t) (by with_unfolding_all rfl) (mw_e2 41 24 (by with_unfolding_all rfl) (mw_go 2 (46, [(0, .int x0), (1, .int x1)], [.int (1 : Int32)], mw_E s t) (by with_unfolding_all rfl) (mw_ri (by with_unfolding_all rfl) (by with_unfolding_all rfl) rfl)) (mw_jp [(0, .int x0), (1, .int x1)] (by with_unfolding_all rfl) (by with_unfolding_all rfl) (by with_unfolding_all rfl) (mp_Model_isTwo_b24 N R s x0 x1 t)))))))) (mw_jp [(0, .int x0), (1, .int x1)] (by with_unfolding_all rfl) (by with_unfolding_all rfl) (by with_unfolding_all rfl) (mp_Model_isTwo_b24 N R s x0 x1 t))))
theorem mg_Model_isTwo_b24 (N R : Nat) : ∀ (x0 : Int32) (x1 : Int32) (t : mw_T), mw_F [] 0 [] t (mf_Model_isTwo_b24 N R x0 x1 t) := by
  intro x0 x1 t
  exact (mg_if (mg_if (mg_rt mg_rf) (mg_if (mg_rt mg_rf) (mg_rt mg_rf))) (mg_rt mg_rf))
theorem mg_Model_isTwo (N R : Nat) : ∀ (x0 : Int32) (x1 : Int32) (t : mw_T), mw_F [] 0 [] t (mf_Model_isTwo N R x0 x1 t) := by
  intro x0 x1 t
  exact (mg_if (mg_if (mg_rt mg_rf) (mg_if (mg_rt mg_rf) (mg_if (mg_rt mg_rf) (mg_jp mg_rf (mg_Model_isTwo_b24 N R x0 x1 t))))) (mg_jp mg_rf (mg_Model_isTwo_b24 N R x0 x1 t)))
def mf_Model_take_b142 (N R : Nat) (r80 : Int32 → Int32 → mw_T → mw_X Unit) (x1 : Int32) (x2 : Int32) (y0 : Int64) (t : mw_T) : mw_X Unit :=
  (r80 x1 x2 (mw_wi (mw_wl t 49 6 y0) 49 3 ((t.1 49 3) + (1 : Int32))))
def mf_Model_take_b228 (N R : Nat) (r158 : Int32 → Int32 → mw_T → mw_X Unit) (x1 : Int32) (x2 : Int32) (y0 : Int64) (t : mw_T) : mw_X Unit :=
  (r158 x1 x2 (mw_wi (mw_wl t 49 6 y0) 49 3 ((t.1 49 3) + (1 : Int32))))
def mf_Model_take_b350 (N R : Nat) (x3 : Int32) (y0 : Int64) (t : mw_T) : mw_X Unit :=
  (if x3 = 0 then (some (.inl (), (mw_wi (mw_wl t 49 6 y0) 49 3 ((t.1 49 3) + (1 : Int32))))) else (some (.inl (), (mw_wi (mw_wl t 49 6 y0) 49 3 ((t.1 49 3) + (2 : Int32))))))
def mf_Model_take_b295 (N R : Nat) (x1 : Int32) (y0 : Int32) (t : mw_T) : mw_X Unit :=
  (if y0 = 0 ∨ y0 = 1 then (if (t.1 49 4) = (3 : Int32) then (mw_b (mf_Model_character N R ((t.1 49 3) + (1 : Int32)) (mw_wi t 49 7 y0)) (fun v11 t11 => (mw_bs (mf_Model_isTwo N R x1 v11 t11) (fun v12 t12 => (if v12 = 0 then (mf_Model_take_b350 N R v12 x1.toInt64 t12) else (mw_b (mf_Model_character N R ((t12.1 49 3) + (1 : Int32)) t12) (fun v13 t13 => (mf_Model_take_b350 N R v12 (x1.toInt64 + ((256 : Int64) * v13.toInt64)) t13)))))))) else (some (.inl (), (mw_wi t 49 7 y0)))) else none)
def mf_Model_take_b290 (N R : Nat) (x1 : Int32) (t : mw_T) : mw_X Unit :=
  (mf_Model_take_b295 N R x1 (1 : Int32) t)
def mf_Model_take_b294 (N R : Nat) (x1 : Int32) (t : mw_T) : mw_X Unit :=
  (mf_Model_take_b295 N R x1 (0 : Int32) t)
def mf_Model_take_b271 (N R : Nat) (x1 : Int32) (x2 : Int32) (t : mw_T) : mw_X Unit :=
  (if (t.1 49 4) = (1 : Int32) then (if (8 : Int32) < ((t.1 49 3) - x2) then (mf_Model_take_b290 N R x1 t) else (mf_Model_take_b294 N R x1 t)) else (mf_Model_take_b294 N R x1 t))
def mf_Model_take_b244 (N R : Nat) (x1 : Int32) (x2 : Int32) (t : mw_T) : mw_X Unit :=
  (if (t.1 49 7) = 0 then (if (t.1 49 4) = (2 : Int32) then (if (4294967295 : Int64) < (t.2.1 49 6) then (mf_Model_take_b290 N R x1 t) else (mf_Model_take_b271 N R x1 x2 t)) else (mf_Model_take_b271 N R x1 x2 t)) else (mf_Model_take_b290 N R x1 t))
def mf_Model_take_l158B (N R : Nat) (r158 : Int32 → Int32 → mw_T → mw_X Unit) (x1 : Int32) (x2 : Int32) (t : mw_T) : mw_X Unit :=
  (if (t.1 49 4) = (2 : Int32) then (mw_b (mf_Model_character N R (t.1 49 3) t) (fun v8 t8 => (mw_bs (mf_Model_isDigit N R v8 t8) (fun v9 t9 => (if v9 = 0 then (mf_Model_take_b244 N R x1 x2 t9) else (mw_b (mf_Model_character N R (t9.1 49 3) t9) (fun v10 t10 => (if (4294967295 : Int64) < ((((t9.2.1 49 6) * (10 : Int64)) + v10.toInt64) - (48 : Int64)) then (mf_Model_take_b228 N R r158 x1 x2 (4294967296 : Int64) (mw_wl t10 49 6 ((((t9.2.1 49 6) * (10 : Int64)) + v10.toInt64) - (48 : Int64)))) else (mf_Model_take_b228 N R r158 x1 x2 ((((t9.2.1 49 6) * (10 : Int64)) + v10.toInt64) - (48 : Int64)) (mw_wl t10 49 6 ((((t9.2.1 49 6) * (10 : Int64)) + v10.toInt64) - (48 : Int64)))))))))))) else (mf_Model_take_b244 N R x1 x2 t))
def mf_Model_take_l158 (N R : Nat) : Nat → Int32 → Int32 → mw_T → mw_X Unit
  | 0 => fun _ _ _ => none
  | n + 1 => fun  x1 x2 t => mf_Model_take_l158B N R (mf_Model_take_l158 N R n)  x1 x2 t
def mf_Model_take_l80B (N R : Nat) (r80 : Int32 → Int32 → mw_T → mw_X Unit) (x1 : Int32) (x2 : Int32) (t : mw_T) : mw_X Unit :=
  (if (t.1 49 4) = (1 : Int32) then (mw_b (mf_Model_character N R (t.1 49 3) t) (fun v5 t5 => (mw_bs (mf_Model_isLetter N R v5 t5) (fun v6 t6 => (if v6 = 0 then (mf_Model_take_l158 N R N x1 x2 t6) else (if ((t6.1 49 3) - x2) < (8 : Int32) then (mw_b (mf_Model_character N R (t6.1 49 3) t6) (fun v7 t7 => (mf_Model_take_b142 N R r80 x1 x2 ((t6.2.1 49 6) ||| (v7.toInt64 <<< (((8 : Int32) * ((t7.1 49 3) - x2)).toInt64 &&& 63))) t7))) else (mf_Model_take_b142 N R r80 x1 x2 (0 : Int64) t6))))))) else (mf_Model_take_l158 N R N x1 x2 t))
def mf_Model_take_l80 (N R : Nat) : Nat → Int32 → Int32 → mw_T → mw_X Unit
  | 0 => fun _ _ _ => none
  | n + 1 => fun  x1 x2 t => mf_Model_take_l80B N R (mf_Model_take_l80 N R n)  x1 x2 t
def mf_Model_take_b77 (N R : Nat) (x1 : Int32) (x2 : Int32) (y0 : Int32) (t : mw_T) : mw_X Unit :=
  (mf_Model_take_l80 N R N x1 x2 (mw_wi t 49 4 y0))
def mf_Model_take_l0B (N R : Nat) (r0 : mw_T → mw_X Unit) (t : mw_T) : mw_X Unit :=
  (mw_b (mf_Model_character N R (t.1 49 3) t) (fun v1 t1 => (if v1 = (32 : Int32) then (r0 (mw_wi t1 49 3 ((t1.1 49 3) + (1 : Int32)))) else (mw_b (mf_Model_character N R (t1.1 49 3) t1) (fun v2 t2 => (if v2 = 0 then (mf_Model_take_b77 N R v2 (t2.1 49 3) (0 : Int32) (mw_wl t2 49 6 (0 : Int64))) else (mw_bs (mf_Model_isLetter N R v2 (mw_wl t2 49 6 (0 : Int64))) (fun v3 t3 => (if v3 = 0 then (mw_bs (mf_Model_isDigit N R v2 t3) (fun v4 t4 => (if v4 = 0 then (mf_Model_take_b77 N R v2 (t2.1 49 3) (3 : Int32) t4) else (mf_Model_take_b77 N R v2 (t2.1 49 3) (2 : Int32) t4)))) else (mf_Model_take_b77 N R v2 (t2.1 49 3) (1 : Int32) t3))))))))))
def mf_Model_take_l0 (N R : Nat) : Nat → mw_T → mw_X Unit
  | 0 => fun _ => none
  | n + 1 => fun   t => mf_Model_take_l0B N R (mf_Model_take_l0 N R n)   t
def mf_Model_take (N R : Nat) (t : mw_T) : mw_X Unit :=
  (mf_Model_take_l0 N R N t)
set_option maxRecDepth 100000 in
theorem mp_Model_take_b142 (N R s : Nat) (r80 : Int32 → Int32 → mw_T → mw_X Unit) (h80 : ∀ (x1 : Int32) (x2 : Int32) (t : mw_T), mw_W (mw_d3 mw_eV s) 1 kModel_take (80, [(0, .ref 49), (1, .int x1), (2, .int x2)], [], mw_E s t) (r80 x1 x2 t)) : ∀ (x1 : Int32) (x2 : Int32) (y0 : Int64) (t : mw_T), mw_W (mw_d3 mw_eV s) 1 kModel_take (142, [(0, .ref 49), (1, .int x1), (2, .int x2)], [.long y0, .ref 49], mw_E s t) (mf_Model_take_b142 N R r80 x1 x2 y0 t) := by
  intro x1 x2 y0 t
  unfold mf_Model_take_b142
  exact (mw_go 8 (80, [(0, .ref 49), (1, .int x1), (2, .int x2)], [], mw_E s (mw_wi (mw_wl t 49 6 y0) 49 3 ((t.1 49 3) + (1 : Int32)))) (by with_unfolding_all rfl) (mw_jp [(0, .ref 49), (1, .int x1), (2, .int x2)] (by with_unfolding_all rfl) (by with_unfolding_all rfl) (by with_unfolding_all rfl) (h80 x1 x2 (mw_wi (mw_wl t 49 6 y0) 49 3 ((t.1 49 3) + (1 : Int32))))))
set_option maxRecDepth 100000 in
theorem mp_Model_take_b228 (N R s : Nat) (r158 : Int32 → Int32 → mw_T → mw_X Unit) (h158 : ∀ (x1 : Int32) (x2 : Int32) (t : mw_T), mw_W (mw_d3 mw_eV s) 1 kModel_take (158, [(0, .ref 49), (1, .int x1), (2, .int x2)], [], mw_E s t) (r158 x1 x2 t)) : ∀ (x1 : Int32) (x2 : Int32) (y0 : Int64) (t : mw_T), mw_W (mw_d3 mw_eV s) 1 kModel_take (228, [(0, .ref 49), (1, .int x1), (2, .int x2)], [.long y0, .ref 49], mw_E s t) (mf_Model_take_b228 N R r158 x1 x2 y0 t) := by
  intro x1 x2 y0 t
  unfold mf_Model_take_b228
  exact (mw_go 8 (158, [(0, .ref 49), (1, .int x1), (2, .int x2)], [], mw_E s (mw_wi (mw_wl t 49 6 y0) 49 3 ((t.1 49 3) + (1 : Int32)))) (by with_unfolding_all rfl) (mw_jp [(0, .ref 49), (1, .int x1), (2, .int x2)] (by with_unfolding_all rfl) (by with_unfolding_all rfl) (by with_unfolding_all rfl) (h158 x1 x2 (mw_wi (mw_wl t 49 6 y0) 49 3 ((t.1 49 3) + (1 : Int32))))))
set_option maxRecDepth 100000 in
theorem mp_Model_take_b350 (N R s : Nat) : ∀ (x3 : Int32) (y0 : Int64) (t : mw_T), mw_W (mw_d3 mw_eV s) 1 kModel_take (350, [(0, .ref 49), (3, .int x3)], [.long y0, .ref 49], mw_E s t) (mf_Model_take_b350 N R x3 y0 t) := by
  intro x3 y0 t
  unfold mf_Model_take_b350
  exact (mw_go 5 (359, [(0, .ref 49), (3, .int x3)], [.int x3, .int (t.1 49 3), .ref 49], mw_E s (mw_wl t 49 6 y0)) (by with_unfolding_all rfl) (mw_e1 366 362 (by with_unfolding_all rfl) (mw_go 3 (371, [(0, .ref 49), (3, .int x3)], [], mw_E s (mw_wi (mw_wl t 49 6 y0) 49 3 ((t.1 49 3) + (1 : Int32)))) (by with_unfolding_all rfl) (mw_rv (by with_unfolding_all rfl) (by with_unfolding_all rfl) rfl)) (mw_go 4 (371, [(0, .ref 49), (3, .int x3)], [], mw_E s (mw_wi (mw_wl t 49 6 y0) 49 3 ((t.1 49 3) + (2 : Int32)))) (by with_unfolding_all rfl) (mw_rv (by with_unfolding_all rfl) (by with_unfolding_all rfl) rfl))))
set_option maxRecDepth 100000 in
theorem mp_Model_take_b295 (N R s : Nat) : ∀ (x1 : Int32) (y0 : Int32) (t : mw_T), mw_W (mw_d3 mw_eV s) 1 kModel_take (295, [(0, .ref 49), (1, .int x1)], [.int y0, .ref 49], mw_E s t) (mf_Model_take_b295 N R x1 y0 t) := by
  intro x1 y0 t
  unfold mf_Model_take_b295
  exact (mw_pz (ci := 11) (f := 7) 298 (by with_unfolding_all rfl) (by with_unfolding_all rfl) (by with_unfolding_all rfl) (mw_go 3 (303, [(0, .ref 49), (1, .int x1)], [.int (3 : Int32), .int (t.1 49 4)], mw_E s (mw_wi t 49 7 y0)) (by with_unfolding_all rfl) (mw_e2 307 306 (by with_unfolding_all rfl) (mw_go 6 (315, [(0, .ref 49), (1, .int x1)], [.int ((t.1 49 3) + (1 : Int32)), .ref 49, .int x1], mw_E s (mw_wi t 49 7 y0)) (by with_unfolding_all rfl) (mw_cI 318 [.ref 49, .int ((t.1 49 3) + (1 : Int32))] [.int x1] (by with_unfolding_all rfl) (mp_Model_character N R s ((t.1 49 3) + (1 : Int32)) (mw_wi t 49 7 y0)) (by omega) (fun v11 t11 => (mw_cIs 321 [.int x1, .int v11] [] (by with_unfolding_all rfl) (mp_Model_isTwo N R s x1 v11 t11) (by omega) (fun v12 t12 => (mw_go 3 (324, [(3, .int v12), (0, .ref 49), (1, .int x1)], [.int v12, .ref 49], mw_E s t12) (by with_unfolding_all rfl) (mw_e1 348 327 (by with_unfolding_all rfl) (mw_go 2 (350, [(3, .int v12), (0, .ref 49), (1, .int x1)], [.long x1.toInt64, .ref 49], mw_E s t12) (by with_unfolding_all rfl) (mw_jp [(0, .ref 49), (3, .int v12)] (by with_unfolding_all rfl) (by with_unfolding_all rfl) (by with_unfolding_all rfl) (mp_Model_take_b350 N R s v12 x1.toInt64 t12))) (mw_go 8 (339, [(3, .int v12), (0, .ref 49), (1, .int x1)], [.int ((t12.1 49 3) + (1 : Int32)), .ref 49, .long (256 : Int64), .long x1.toInt64, .ref 49], mw_E s t12) (by with_unfolding_all rfl) (mw_cI 342 [.ref 49, .int ((t12.1 49 3) + (1 : Int32))] [.long (256 : Int64), .long x1.toInt64, .ref 49] (by with_unfolding_all rfl) (mp_Model_character N R s ((t12.1 49 3) + (1 : Int32)) t12) (by omega) (fun v13 t13 => (mw_go 4 (350, [(3, .int v12), (0, .ref 49), (1, .int x1)], [.long (x1.toInt64 + ((256 : Int64) * v13.toInt64)), .ref 49], mw_E s t13) (by with_unfolding_all rfl) (mw_jp [(0, .ref 49), (3, .int v12)] (by with_unfolding_all rfl) (by with_unfolding_all rfl) (by with_unfolding_all rfl) (mp_Model_take_b350 N R s v12 (x1.toInt64 + ((256 : Int64) * v13.toInt64)) t13))))))))))))) (mw_rv (by with_unfolding_all rfl) (by with_unfolding_all rfl) rfl))))
set_option maxRecDepth 100000 in
theorem mp_Model_take_b290 (N R s : Nat) : ∀ (x1 : Int32) (t : mw_T), mw_W (mw_d3 mw_eV s) 1 kModel_take (290, [(0, .ref 49), (1, .int x1)], [.ref 49], mw_E s t) (mf_Model_take_b290 N R x1 t) := by
  intro x1 t
  unfold mf_Model_take_b290
  exact (mw_go 2 (295, [(0, .ref 49), (1, .int x1)], [.int (1 : Int32), .ref 49], mw_E s t) (by with_unfolding_all rfl) (mw_jp [(0, .ref 49), (1, .int x1)] (by with_unfolding_all rfl) (by with_unfolding_all rfl) (by with_unfolding_all rfl) (mp_Model_take_b295 N R s x1 (1 : Int32) t)))
set_option maxRecDepth 100000 in
theorem mp_Model_take_b294 (N R s : Nat) : ∀ (x1 : Int32) (t : mw_T), mw_W (mw_d3 mw_eV s) 1 kModel_take (294, [(0, .ref 49), (1, .int x1)], [.ref 49], mw_E s t) (mf_Model_take_b294 N R x1 t) := by
  intro x1 t
  unfold mf_Model_take_b294
  exact (mw_go 1 (295, [(0, .ref 49), (1, .int x1)], [.int (0 : Int32), .ref 49], mw_E s t) (by with_unfolding_all rfl) (mw_jp [(0, .ref 49), (1, .int x1)] (by with_unfolding_all rfl) (by with_unfolding_all rfl) (by with_unfolding_all rfl) (mp_Model_take_b295 N R s x1 (0 : Int32) t)))
set_option maxRecDepth 100000 in
theorem mp_Model_take_b271 (N R s : Nat) : ∀ (x1 : Int32) (x2 : Int32) (t : mw_T), mw_W (mw_d3 mw_eV s) 1 kModel_take (271, [(0, .ref 49), (1, .int x1), (2, .int x2)], [.ref 49], mw_E s t) (mf_Model_take_b271 N R x1 x2 t) := by
  intro x1 x2 t
  unfold mf_Model_take_b271
  exact (mw_go 3 (276, [(0, .ref 49), (1, .int x1), (2, .int x2)], [.int (1 : Int32), .int (t.1 49 4), .ref 49], mw_E s t) (by with_unfolding_all rfl) (mw_e2 279 294 (by with_unfolding_all rfl) (mw_go 5 (287, [(0, .ref 49), (1, .int x1), (2, .int x2)], [.int (8 : Int32), .int ((t.1 49 3) - x2), .ref 49], mw_E s t) (by with_unfolding_all rfl) (mw_g2 290 294 (by with_unfolding_all rfl) (mw_jp [(0, .ref 49), (1, .int x1)] (by with_unfolding_all rfl) (by with_unfolding_all rfl) (by with_unfolding_all rfl) (mp_Model_take_b290 N R s x1 t)) (mw_jp [(0, .ref 49), (1, .int x1)] (by with_unfolding_all rfl) (by with_unfolding_all rfl) (by with_unfolding_all rfl) (mp_Model_take_b294 N R s x1 t)))) (mw_jp [(0, .ref 49), (1, .int x1)] (by with_unfolding_all rfl) (by with_unfolding_all rfl) (by with_unfolding_all rfl) (mp_Model_take_b294 N R s x1 t))))
set_option maxRecDepth 100000 in
theorem mp_Model_take_b244 (N R s : Nat) : ∀ (x1 : Int32) (x2 : Int32) (t : mw_T), mw_W (mw_d3 mw_eV s) 1 kModel_take (244, [(0, .ref 49), (1, .int x1), (2, .int x2)], [], mw_E s t) (mf_Model_take_b244 N R x1 x2 t) := by
  intro x1 x2 t
  unfold mf_Model_take_b244
  exact (mw_go 3 (249, [(0, .ref 49), (1, .int x1), (2, .int x2)], [.int (t.1 49 7), .ref 49], mw_E s t) (by with_unfolding_all rfl) (mw_e1 252 290 (by with_unfolding_all rfl) (mw_go 3 (257, [(0, .ref 49), (1, .int x1), (2, .int x2)], [.int (2 : Int32), .int (t.1 49 4), .ref 49], mw_E s t) (by with_unfolding_all rfl) (mw_e2 260 271 (by with_unfolding_all rfl) (mw_go 3 (267, [(0, .ref 49), (1, .int x1), (2, .int x2)], [.long (4294967295 : Int64), .long (t.2.1 49 6), .ref 49], mw_E s t) (by with_unfolding_all rfl) (mw_gL 268 290 271 (by with_unfolding_all rfl) (by with_unfolding_all rfl) (mw_jp [(0, .ref 49), (1, .int x1)] (by with_unfolding_all rfl) (by with_unfolding_all rfl) (by with_unfolding_all rfl) (mp_Model_take_b290 N R s x1 t)) (mw_jp [(0, .ref 49), (1, .int x1), (2, .int x2)] (by with_unfolding_all rfl) (by with_unfolding_all rfl) (by with_unfolding_all rfl) (mp_Model_take_b271 N R s x1 x2 t)))) (mw_jp [(0, .ref 49), (1, .int x1), (2, .int x2)] (by with_unfolding_all rfl) (by with_unfolding_all rfl) (by with_unfolding_all rfl) (mp_Model_take_b271 N R s x1 x2 t)))) (mw_jp [(0, .ref 49), (1, .int x1)] (by with_unfolding_all rfl) (by with_unfolding_all rfl) (by with_unfolding_all rfl) (mp_Model_take_b290 N R s x1 t))))
set_option maxRecDepth 100000 in
theorem mp_Model_take_l158B (N R s : Nat) (r158 : Int32 → Int32 → mw_T → mw_X Unit) (h158 : ∀ (x1 : Int32) (x2 : Int32) (t : mw_T), mw_W (mw_d3 mw_eV s) 1 kModel_take (158, [(0, .ref 49), (1, .int x1), (2, .int x2)], [], mw_E s t) (r158 x1 x2 t)) : ∀ (x1 : Int32) (x2 : Int32) (t : mw_T), mw_W (mw_d3 mw_eV s) 1 kModel_take (158, [(0, .ref 49), (1, .int x1), (2, .int x2)], [], mw_E s t) (mf_Model_take_l158B N R r158 x1 x2 t) := by
  intro x1 x2 t
  unfold mf_Model_take_l158B
  exact (mw_go 3 (163, [(0, .ref 49), (1, .int x1), (2, .int x2)], [.int (2 : Int32), .int (t.1 49 4)], mw_E s t) (by with_unfolding_all rfl) (mw_e2 166 244 (by with_unfolding_all rfl) (mw_go 3 (171, [(0, .ref 49), (1, .int x1), (2, .int x2)], [.int (t.1 49 3), .ref 49], mw_E s t) (by with_unfolding_all rfl) (mw_cI 174 [.ref 49, .int (t.1 49 3)] [] (by with_unfolding_all rfl) (mp_Model_character N R s (t.1 49 3) t) (by omega) (fun v8 t8 => (mw_cIs 177 [.int v8] [] (by with_unfolding_all rfl) (mp_Model_isDigit N R s v8 t8) (by omega) (fun v9 t9 => (mw_e1 244 180 (by with_unfolding_all rfl) (mw_jp [(0, .ref 49), (1, .int x1), (2, .int x2)] (by with_unfolding_all rfl) (by with_unfolding_all rfl) (by with_unfolding_all rfl) (mp_Model_take_b244 N R s x1 x2 t9)) (mw_go 8 (194, [(0, .ref 49), (1, .int x1), (2, .int x2)], [.int (t9.1 49 3), .ref 49, .long ((t9.2.1 49 6) * (10 : Int64)), .ref 49], mw_E s t9) (by with_unfolding_all rfl) (mw_cI 197 [.ref 49, .int (t9.1 49 3)] [.long ((t9.2.1 49 6) * (10 : Int64)), .ref 49] (by with_unfolding_all rfl) (mp_Model_character N R s (t9.1 49 3) t9) (by omega) (fun v10 t10 => (mw_go 9 (214, [(0, .ref 49), (1, .int x1), (2, .int x2)], [.long (4294967295 : Int64), .long ((((t9.2.1 49 6) * (10 : Int64)) + v10.toInt64) - (48 : Int64)), .ref 49], mw_E s (mw_wl t10 49 6 ((((t9.2.1 49 6) * (10 : Int64)) + v10.toInt64) - (48 : Int64)))) (by with_unfolding_all rfl) (mw_gL 215 218 224 (by with_unfolding_all rfl) (by with_unfolding_all rfl) (mw_go 2 (228, [(0, .ref 49), (1, .int x1), (2, .int x2)], [.long (4294967296 : Int64), .ref 49], mw_E s (mw_wl t10 49 6 ((((t9.2.1 49 6) * (10 : Int64)) + v10.toInt64) - (48 : Int64)))) (by with_unfolding_all rfl) (mw_jp [(0, .ref 49), (1, .int x1), (2, .int x2)] (by with_unfolding_all rfl) (by with_unfolding_all rfl) (by with_unfolding_all rfl) (mp_Model_take_b228 N R s r158 h158 x1 x2 (4294967296 : Int64) (mw_wl t10 49 6 ((((t9.2.1 49 6) * (10 : Int64)) + v10.toInt64) - (48 : Int64)))))) (mw_go 2 (228, [(0, .ref 49), (1, .int x1), (2, .int x2)], [.long ((((t9.2.1 49 6) * (10 : Int64)) + v10.toInt64) - (48 : Int64)), .ref 49], mw_E s (mw_wl t10 49 6 ((((t9.2.1 49 6) * (10 : Int64)) + v10.toInt64) - (48 : Int64)))) (by with_unfolding_all rfl) (mw_jp [(0, .ref 49), (1, .int x1), (2, .int x2)] (by with_unfolding_all rfl) (by with_unfolding_all rfl) (by with_unfolding_all rfl) (mp_Model_take_b228 N R s r158 h158 x1 x2 ((((t9.2.1 49 6) * (10 : Int64)) + v10.toInt64) - (48 : Int64)) (mw_wl t10 49 6 ((((t9.2.1 49 6) * (10 : Int64)) + v10.toInt64) - (48 : Int64))))))))))))))))) (mw_jp [(0, .ref 49), (1, .int x1), (2, .int x2)] (by with_unfolding_all rfl) (by with_unfolding_all rfl) (by with_unfolding_all rfl) (mp_Model_take_b244 N R s x1 x2 t))))
set_option maxRecDepth 100000 in
theorem mp_Model_take_l158 (N R s : Nat) : ∀ (n : Nat), ∀ (x1 : Int32) (x2 : Int32) (t : mw_T), mw_W (mw_d3 mw_eV s) 1 kModel_take (158, [(0, .ref 49), (1, .int x1), (2, .int x2)], [], mw_E s t) (mf_Model_take_l158 N R n x1 x2 t) := by
  intro n
  induction n with
  | zero => intros; exact mw_no
  | succ n ih => exact mp_Model_take_l158B N R s (mf_Model_take_l158 N R n) ih
set_option maxRecDepth 100000 in
theorem mp_Model_take_l80B (N R s : Nat) (r80 : Int32 → Int32 → mw_T → mw_X Unit) (h80 : ∀ (x1 : Int32) (x2 : Int32) (t : mw_T), mw_W (mw_d3 mw_eV s) 1 kModel_take (80, [(0, .ref 49), (1, .int x1), (2, .int x2)], [], mw_E s t) (r80 x1 x2 t)) : ∀ (x1 : Int32) (x2 : Int32) (t : mw_T), mw_W (mw_d3 mw_eV s) 1 kModel_take (80, [(0, .ref 49), (1, .int x1), (2, .int x2)], [], mw_E s t) (mf_Model_take_l80B N R r80 x1 x2 t) := by
  intro x1 x2 t
  unfold mf_Model_take_l80B
  exact (mw_go 3 (85, [(0, .ref 49), (1, .int x1), (2, .int x2)], [.int (1 : Int32), .int (t.1 49 4)], mw_E s t) (by with_unfolding_all rfl) (mw_e2 88 158 (by with_unfolding_all rfl) (mw_go 3 (93, [(0, .ref 49), (1, .int x1), (2, .int x2)], [.int (t.1 49 3), .ref 49], mw_E s t) (by with_unfolding_all rfl) (mw_cI 96 [.ref 49, .int (t.1 49 3)] [] (by with_unfolding_all rfl) (mp_Model_character N R s (t.1 49 3) t) (by omega) (fun v5 t5 => (mw_cIs 99 [.int v5] [] (by with_unfolding_all rfl) (mp_Model_isLetter N R s v5 t5) (by omega) (fun v6 t6 => (mw_e1 158 102 (by with_unfolding_all rfl) (mw_jp [(0, .ref 49), (1, .int x1), (2, .int x2)] (by with_unfolding_all rfl) (by with_unfolding_all rfl) (by with_unfolding_all rfl) (mp_Model_take_l158 N R s N x1 x2 t6)) (mw_go 6 (111, [(0, .ref 49), (1, .int x1), (2, .int x2)], [.int (8 : Int32), .int ((t6.1 49 3) - x2), .ref 49], mw_E s t6) (by with_unfolding_all rfl) (mw_l2 114 141 (by with_unfolding_all rfl) (mw_go 5 (123, [(0, .ref 49), (1, .int x1), (2, .int x2)], [.int (t6.1 49 3), .ref 49, .long (t6.2.1 49 6), .ref 49], mw_E s t6) (by with_unfolding_all rfl) (mw_cI 126 [.ref 49, .int (t6.1 49 3)] [.long (t6.2.1 49 6), .ref 49] (by with_unfolding_all rfl) (mp_Model_character N R s (t6.1 49 3) t6) (by omega) (fun v7 t7 => (mw_go 10 (142, [(0, .ref 49), (1, .int x1), (2, .int x2)], [.long ((t6.2.1 49 6) ||| (v7.toInt64 <<< (((8 : Int32) * ((t7.1 49 3) - x2)).toInt64 &&& 63))), .ref 49], mw_E s t7) (by with_unfolding_all rfl) (mw_jp [(0, .ref 49), (1, .int x1), (2, .int x2)] (by with_unfolding_all rfl) (by with_unfolding_all rfl) (by with_unfolding_all rfl) (mp_Model_take_b142 N R s r80 h80 x1 x2 ((t6.2.1 49 6) ||| (v7.toInt64 <<< (((8 : Int32) * ((t7.1 49 3) - x2)).toInt64 &&& 63))) t7)))))) (mw_go 1 (142, [(0, .ref 49), (1, .int x1), (2, .int x2)], [.long (0 : Int64), .ref 49], mw_E s t6) (by with_unfolding_all rfl) (mw_jp [(0, .ref 49), (1, .int x1), (2, .int x2)] (by with_unfolding_all rfl) (by with_unfolding_all rfl) (by with_unfolding_all rfl) (mp_Model_take_b142 N R s r80 h80 x1 x2 (0 : Int64) t6))))))))))) (mw_jp [(0, .ref 49), (1, .int x1), (2, .int x2)] (by with_unfolding_all rfl) (by with_unfolding_all rfl) (by with_unfolding_all rfl) (mp_Model_take_l158 N R s N x1 x2 t))))
set_option maxRecDepth 100000 in
theorem mp_Model_take_l80 (N R s : Nat) : ∀ (n : Nat), ∀ (x1 : Int32) (x2 : Int32) (t : mw_T), mw_W (mw_d3 mw_eV s) 1 kModel_take (80, [(0, .ref 49), (1, .int x1), (2, .int x2)], [], mw_E s t) (mf_Model_take_l80 N R n x1 x2 t) := by
  intro n
  induction n with
  | zero => intros; exact mw_no
  | succ n ih => exact mp_Model_take_l80B N R s (mf_Model_take_l80 N R n) ih
set_option maxRecDepth 100000 in
theorem mp_Model_take_b77 (N R s : Nat) : ∀ (x1 : Int32) (x2 : Int32) (y0 : Int32) (t : mw_T), mw_W (mw_d3 mw_eV s) 1 kModel_take (77, [(0, .ref 49), (1, .int x1), (2, .int x2)], [.int y0, .ref 49], mw_E s t) (mf_Model_take_b77 N R x1 x2 y0 t) := by
  intro x1 x2 y0 t
  unfold mf_Model_take_b77
  exact (mw_go 1 (80, [(0, .ref 49), (1, .int x1), (2, .int x2)], [], mw_E s (mw_wi t 49 4 y0)) (by with_unfolding_all rfl) (mw_jp [(0, .ref 49), (1, .int x1), (2, .int x2)] (by with_unfolding_all rfl) (by with_unfolding_all rfl) (by with_unfolding_all rfl) (mp_Model_take_l80 N R s N x1 x2 (mw_wi t 49 4 y0))))
set_option maxRecDepth 100000 in
theorem mp_Model_take_l0B (N R s : Nat) (r0 : mw_T → mw_X Unit) (h0 : ∀ (t : mw_T), mw_W (mw_d3 mw_eV s) 1 kModel_take (0, [(0, .ref 49)], [], mw_E s t) (r0 t)) : ∀ (t : mw_T), mw_W (mw_d3 mw_eV s) 1 kModel_take (0, [(0, .ref 49)], [], mw_E s t) (mf_Model_take_l0B N R r0 t) := by
  intro t
  unfold mf_Model_take_l0B
  exact (mw_go 3 (5, [(0, .ref 49)], [.int (t.1 49 3), .ref 49], mw_E s t) (by with_unfolding_all rfl) (mw_cI 8 [.ref 49, .int (t.1 49 3)] [] (by with_unfolding_all rfl) (mp_Model_character N R s (t.1 49 3) t) (by omega) (fun v1 t1 => (mw_go 1 (10, [(0, .ref 49)], [.int (32 : Int32), .int v1], mw_E s t1) (by with_unfolding_all rfl) (mw_e2 13 26 (by with_unfolding_all rfl) (mw_go 7 (0, [(0, .ref 49)], [], mw_E s (mw_wi t1 49 3 ((t1.1 49 3) + (1 : Int32)))) (by with_unfolding_all rfl) (mw_jp [(0, .ref 49)] (by with_unfolding_all rfl) (by with_unfolding_all rfl) (by with_unfolding_all rfl) (h0 (mw_wi t1 49 3 ((t1.1 49 3) + (1 : Int32)))))) (mw_go 3 (31, [(0, .ref 49)], [.int (t1.1 49 3), .ref 49], mw_E s t1) (by with_unfolding_all rfl) (mw_cI 34 [.ref 49, .int (t1.1 49 3)] [] (by with_unfolding_all rfl) (mp_Model_character N R s (t1.1 49 3) t1) (by omega) (fun v2 t2 => (mw_go 9 (47, [(2, .int (t2.1 49 3)), (1, .int v2), (0, .ref 49)], [.int v2, .ref 49], mw_E s (mw_wl t2 49 6 (0 : Int64))) (by with_unfolding_all rfl) (mw_e1 50 54 (by with_unfolding_all rfl) (mw_go 2 (77, [(2, .int (t2.1 49 3)), (1, .int v2), (0, .ref 49)], [.int (0 : Int32), .ref 49], mw_E s (mw_wl t2 49 6 (0 : Int64))) (by with_unfolding_all rfl) (mw_jp [(0, .ref 49), (1, .int v2), (2, .int (t2.1 49 3))] (by with_unfolding_all rfl) (by with_unfolding_all rfl) (by with_unfolding_all rfl) (mp_Model_take_b77 N R s v2 (t2.1 49 3) (0 : Int32) (mw_wl t2 49 6 (0 : Int64))))) (mw_go 1 (55, [(2, .int (t2.1 49 3)), (1, .int v2), (0, .ref 49)], [.int v2, .ref 49], mw_E s (mw_wl t2 49 6 (0 : Int64))) (by with_unfolding_all rfl) (mw_cIs 58 [.int v2] [.ref 49] (by with_unfolding_all rfl) (mp_Model_isLetter N R s v2 (mw_wl t2 49 6 (0 : Int64))) (by omega) (fun v3 t3 => (mw_e1 65 61 (by with_unfolding_all rfl) (mw_go 1 (66, [(2, .int (t2.1 49 3)), (1, .int v2), (0, .ref 49)], [.int v2, .ref 49], mw_E s t3) (by with_unfolding_all rfl) (mw_cIs 69 [.int v2] [.ref 49] (by with_unfolding_all rfl) (mp_Model_isDigit N R s v2 t3) (by omega) (fun v4 t4 => (mw_e1 76 72 (by with_unfolding_all rfl) (mw_go 1 (77, [(2, .int (t2.1 49 3)), (1, .int v2), (0, .ref 49)], [.int (3 : Int32), .ref 49], mw_E s t4) (by with_unfolding_all rfl) (mw_jp [(0, .ref 49), (1, .int v2), (2, .int (t2.1 49 3))] (by with_unfolding_all rfl) (by with_unfolding_all rfl) (by with_unfolding_all rfl) (mp_Model_take_b77 N R s v2 (t2.1 49 3) (3 : Int32) t4))) (mw_go 2 (77, [(2, .int (t2.1 49 3)), (1, .int v2), (0, .ref 49)], [.int (2 : Int32), .ref 49], mw_E s t4) (by with_unfolding_all rfl) (mw_jp [(0, .ref 49), (1, .int v2), (2, .int (t2.1 49 3))] (by with_unfolding_all rfl) (by with_unfolding_all rfl) (by with_unfolding_all rfl) (mp_Model_take_b77 N R s v2 (t2.1 49 3) (2 : Int32) t4))))))) (mw_go 2 (77, [(2, .int (t2.1 49 3)), (1, .int v2), (0, .ref 49)], [.int (1 : Int32), .ref 49], mw_E s t3) (by with_unfolding_all rfl) (mw_jp [(0, .ref 49), (1, .int v2), (2, .int (t2.1 49 3))] (by with_unfolding_all rfl) (by with_unfolding_all rfl) (by with_unfolding_all rfl) (mp_Model_take_b77 N R s v2 (t2.1 49 3) (1 : Int32) t3)))))))))))))))))
set_option maxRecDepth 100000 in
theorem mp_Model_take_l0 (N R s : Nat) : ∀ (n : Nat), ∀ (t : mw_T), mw_W (mw_d3 mw_eV s) 1 kModel_take (0, [(0, .ref 49)], [], mw_E s t) (mf_Model_take_l0 N R n t) := by
  intro n
  induction n with
  | zero => intros; exact mw_no
  | succ n ih => exact mp_Model_take_l0B N R s (mf_Model_take_l0 N R n) ih
set_option maxRecDepth 100000 in
theorem mp_Model_take (N R s : Nat) : ∀ (t : mw_T), mw_W (mw_d3 mw_eV s) 1 kModel_take (0, [(0, .ref 49)], [], mw_E s t) (mf_Model_take N R t) := by
  intro t
  unfold mf_Model_take
  exact (mw_jp [(0, .ref 49)] (by with_unfolding_all rfl) (by with_unfolding_all rfl) (by with_unfolding_all rfl) (mp_Model_take_l0 N R s N t))
theorem mg_Model_take_b142 (N R : Nat) (r80 : Int32 → Int32 → mw_T → mw_X Unit) (g80 : ∀ (x1 : Int32) (x2 : Int32) (t : mw_T), mw_F [] 0 [(49, 3), (49, 4), (49, 6), (49, 7)] t (r80 x1 x2 t)) : ∀ (x1 : Int32) (x2 : Int32) (y0 : Int64) (t : mw_T), mw_F [] 0 [(49, 3), (49, 4), (49, 6), (49, 7)] t (mf_Model_take_b142 N R r80 x1 x2 y0 t) := by
  intro x1 x2 y0 t
  exact (mg_jp (mg_wiB 49 3 (by rfl) (Or.inr rfl) (mg_wlB 49 6 (by rfl) (Or.inr rfl) mg_rf)) (g80 x1 x2 (mw_wi (mw_wl t 49 6 y0) 49 3 ((t.1 49 3) + (1 : Int32)))))
theorem mg_Model_take_b228 (N R : Nat) (r158 : Int32 → Int32 → mw_T → mw_X Unit) (g158 : ∀ (x1 : Int32) (x2 : Int32) (t : mw_T), mw_F [] 0 [(49, 3), (49, 4), (49, 6), (49, 7)] t (r158 x1 x2 t)) : ∀ (x1 : Int32) (x2 : Int32) (y0 : Int64) (t : mw_T), mw_F [] 0 [(49, 3), (49, 4), (49, 6), (49, 7)] t (mf_Model_take_b228 N R r158 x1 x2 y0 t) := by
  intro x1 x2 y0 t
  exact (mg_jp (mg_wiB 49 3 (by rfl) (Or.inr rfl) (mg_wlB 49 6 (by rfl) (Or.inr rfl) mg_rf)) (g158 x1 x2 (mw_wi (mw_wl t 49 6 y0) 49 3 ((t.1 49 3) + (1 : Int32)))))
theorem mg_Model_take_b350 (N R : Nat) : ∀ (x3 : Int32) (y0 : Int64) (t : mw_T), mw_F [] 0 [(49, 3), (49, 4), (49, 6), (49, 7)] t (mf_Model_take_b350 N R x3 y0 t) := by
  intro x3 y0 t
  exact (mg_if (mg_rt (mg_wiB 49 3 (by rfl) (Or.inr rfl) (mg_wlB 49 6 (by rfl) (Or.inr rfl) mg_rf))) (mg_rt (mg_wiB 49 3 (by rfl) (Or.inr rfl) (mg_wlB 49 6 (by rfl) (Or.inr rfl) mg_rf))))
theorem mg_Model_take_b295 (N R : Nat) : ∀ (x1 : Int32) (y0 : Int32) (t : mw_T), mw_F [] 0 [(49, 3), (49, 4), (49, 6), (49, 7)] t (mf_Model_take_b295 N R x1 y0 t) := by
  intro x1 y0 t
  exact (mg_gd (mg_if (mg_b (mg_wiB 49 7 (by rfl) (Or.inr rfl) mg_rf) (mg_Model_character N R ((t.1 49 3) + (1 : Int32)) (mw_wi t 49 7 y0)) (mw_lq0 (by rfl)) (fun v11 t11 e11 => (mg_bs e11 (mg_Model_isTwo N R x1 v11 t11) (mw_lq0 (by rfl)) (fun v12 t12 e12 => (mg_if (mg_jp e12 (mg_Model_take_b350 N R v12 x1.toInt64 t12)) (mg_b e12 (mg_Model_character N R ((t12.1 49 3) + (1 : Int32)) t12) (mw_lq0 (by rfl)) (fun v13 t13 e13 => (mg_jp e13 (mg_Model_take_b350 N R v12 (x1.toInt64 + ((256 : Int64) * v13.toInt64)) t13))))))))) (mg_rt (mg_wiB 49 7 (by rfl) (Or.inr rfl) mg_rf))))
theorem mg_Model_take_b290 (N R : Nat) : ∀ (x1 : Int32) (t : mw_T), mw_F [] 0 [(49, 3), (49, 4), (49, 6), (49, 7)] t (mf_Model_take_b290 N R x1 t) := by
  intro x1 t
  exact (mg_jp mg_rf (mg_Model_take_b295 N R x1 (1 : Int32) t))
theorem mg_Model_take_b294 (N R : Nat) : ∀ (x1 : Int32) (t : mw_T), mw_F [] 0 [(49, 3), (49, 4), (49, 6), (49, 7)] t (mf_Model_take_b294 N R x1 t) := by
  intro x1 t
  exact (mg_jp mg_rf (mg_Model_take_b295 N R x1 (0 : Int32) t))
theorem mg_Model_take_b271 (N R : Nat) : ∀ (x1 : Int32) (x2 : Int32) (t : mw_T), mw_F [] 0 [(49, 3), (49, 4), (49, 6), (49, 7)] t (mf_Model_take_b271 N R x1 x2 t) := by
  intro x1 x2 t
  exact (mg_if (mg_if (mg_jp mg_rf (mg_Model_take_b290 N R x1 t)) (mg_jp mg_rf (mg_Model_take_b294 N R x1 t))) (mg_jp mg_rf (mg_Model_take_b294 N R x1 t)))
theorem mg_Model_take_b244 (N R : Nat) : ∀ (x1 : Int32) (x2 : Int32) (t : mw_T), mw_F [] 0 [(49, 3), (49, 4), (49, 6), (49, 7)] t (mf_Model_take_b244 N R x1 x2 t) := by
  intro x1 x2 t
  exact (mg_if (mg_if (mg_if (mg_jp mg_rf (mg_Model_take_b290 N R x1 t)) (mg_jp mg_rf (mg_Model_take_b271 N R x1 x2 t))) (mg_jp mg_rf (mg_Model_take_b271 N R x1 x2 t))) (mg_jp mg_rf (mg_Model_take_b290 N R x1 t)))
theorem mg_Model_take_l158B (N R : Nat) (r158 : Int32 → Int32 → mw_T → mw_X Unit) (g158 : ∀ (x1 : Int32) (x2 : Int32) (t : mw_T), mw_F [] 0 [(49, 3), (49, 4), (49, 6), (49, 7)] t (r158 x1 x2 t)) : ∀ (x1 : Int32) (x2 : Int32) (t : mw_T), mw_F [] 0 [(49, 3), (49, 4), (49, 6), (49, 7)] t (mf_Model_take_l158B N R r158 x1 x2 t) := by
  intro x1 x2 t
  exact (mg_if (mg_b mg_rf (mg_Model_character N R (t.1 49 3) t) (mw_lq0 (by rfl)) (fun v8 t8 e8 => (mg_bs e8 (mg_Model_isDigit N R v8 t8) (mw_lq0 (by rfl)) (fun v9 t9 e9 => (mg_if (mg_jp e9 (mg_Model_take_b244 N R x1 x2 t9)) (mg_b e9 (mg_Model_character N R (t9.1 49 3) t9) (mw_lq0 (by rfl)) (fun v10 t10 e10 => (mg_if (mg_jp (mg_wlB 49 6 (by rfl) (Or.inr rfl) e10) (mg_Model_take_b228 N R r158 g158 x1 x2 (4294967296 : Int64) (mw_wl t10 49 6 ((((t9.2.1 49 6) * (10 : Int64)) + v10.toInt64) - (48 : Int64))))) (mg_jp (mg_wlB 49 6 (by rfl) (Or.inr rfl) e10) (mg_Model_take_b228 N R r158 g158 x1 x2 ((((t9.2.1 49 6) * (10 : Int64)) + v10.toInt64) - (48 : Int64)) (mw_wl t10 49 6 ((((t9.2.1 49 6) * (10 : Int64)) + v10.toInt64) - (48 : Int64))))))))))))) (mg_jp mg_rf (mg_Model_take_b244 N R x1 x2 t)))
theorem mg_Model_take_l158 (N R : Nat) : ∀ (n : Nat), ∀ (x1 : Int32) (x2 : Int32) (t : mw_T), mw_F [] 0 [(49, 3), (49, 4), (49, 6), (49, 7)] t (mf_Model_take_l158 N R n x1 x2 t) := by
  intro n
  induction n with
  | zero => intros; exact mg_no
  | succ n ih => exact mg_Model_take_l158B N R (mf_Model_take_l158 N R n) ih
theorem mg_Model_take_l80B (N R : Nat) (r80 : Int32 → Int32 → mw_T → mw_X Unit) (g80 : ∀ (x1 : Int32) (x2 : Int32) (t : mw_T), mw_F [] 0 [(49, 3), (49, 4), (49, 6), (49, 7)] t (r80 x1 x2 t)) : ∀ (x1 : Int32) (x2 : Int32) (t : mw_T), mw_F [] 0 [(49, 3), (49, 4), (49, 6), (49, 7)] t (mf_Model_take_l80B N R r80 x1 x2 t) := by
  intro x1 x2 t
  exact (mg_if (mg_b mg_rf (mg_Model_character N R (t.1 49 3) t) (mw_lq0 (by rfl)) (fun v5 t5 e5 => (mg_bs e5 (mg_Model_isLetter N R v5 t5) (mw_lq0 (by rfl)) (fun v6 t6 e6 => (mg_if (mg_jp e6 (mg_Model_take_l158 N R N x1 x2 t6)) (mg_if (mg_b e6 (mg_Model_character N R (t6.1 49 3) t6) (mw_lq0 (by rfl)) (fun v7 t7 e7 => (mg_jp e7 (mg_Model_take_b142 N R r80 g80 x1 x2 ((t6.2.1 49 6) ||| (v7.toInt64 <<< (((8 : Int32) * ((t7.1 49 3) - x2)).toInt64 &&& 63))) t7)))) (mg_jp e6 (mg_Model_take_b142 N R r80 g80 x1 x2 (0 : Int64) t6)))))))) (mg_jp mg_rf (mg_Model_take_l158 N R N x1 x2 t)))
theorem mg_Model_take_l80 (N R : Nat) : ∀ (n : Nat), ∀ (x1 : Int32) (x2 : Int32) (t : mw_T), mw_F [] 0 [(49, 3), (49, 4), (49, 6), (49, 7)] t (mf_Model_take_l80 N R n x1 x2 t) := by
  intro n
  induction n with
  | zero => intros; exact mg_no
  | succ n ih => exact mg_Model_take_l80B N R (mf_Model_take_l80 N R n) ih
theorem mg_Model_take_b77 (N R : Nat) : ∀ (x1 : Int32) (x2 : Int32) (y0 : Int32) (t : mw_T), mw_F [] 0 [(49, 3), (49, 4), (49, 6), (49, 7)] t (mf_Model_take_b77 N R x1 x2 y0 t) := by
  intro x1 x2 y0 t
  exact (mg_jp (mg_wiB 49 4 (by rfl) (Or.inr rfl) mg_rf) (mg_Model_take_l80 N R N x1 x2 (mw_wi t 49 4 y0)))
theorem mg_Model_take_l0B (N R : Nat) (r0 : mw_T → mw_X Unit) (g0 : ∀ (t : mw_T), mw_F [] 0 [(49, 3), (49, 4), (49, 6), (49, 7)] t (r0 t)) : ∀ (t : mw_T), mw_F [] 0 [(49, 3), (49, 4), (49, 6), (49, 7)] t (mf_Model_take_l0B N R r0 t) := by
  intro t
  exact (mg_b mg_rf (mg_Model_character N R (t.1 49 3) t) (mw_lq0 (by rfl)) (fun v1 t1 e1 => (mg_if (mg_jp (mg_wiB 49 3 (by rfl) (Or.inr rfl) e1) (g0 (mw_wi t1 49 3 ((t1.1 49 3) + (1 : Int32))))) (mg_b e1 (mg_Model_character N R (t1.1 49 3) t1) (mw_lq0 (by rfl)) (fun v2 t2 e2 => (mg_if (mg_jp (mg_wlB 49 6 (by rfl) (Or.inr rfl) e2) (mg_Model_take_b77 N R v2 (t2.1 49 3) (0 : Int32) (mw_wl t2 49 6 (0 : Int64)))) (mg_bs (mg_wlB 49 6 (by rfl) (Or.inr rfl) e2) (mg_Model_isLetter N R v2 (mw_wl t2 49 6 (0 : Int64))) (mw_lq0 (by rfl)) (fun v3 t3 e3 => (mg_if (mg_bs e3 (mg_Model_isDigit N R v2 t3) (mw_lq0 (by rfl)) (fun v4 t4 e4 => (mg_if (mg_jp e4 (mg_Model_take_b77 N R v2 (t2.1 49 3) (3 : Int32) t4)) (mg_jp e4 (mg_Model_take_b77 N R v2 (t2.1 49 3) (2 : Int32) t4))))) (mg_jp e3 (mg_Model_take_b77 N R v2 (t2.1 49 3) (1 : Int32) t3)))))))))))
theorem mg_Model_take_l0 (N R : Nat) : ∀ (n : Nat), ∀ (t : mw_T), mw_F [] 0 [(49, 3), (49, 4), (49, 6), (49, 7)] t (mf_Model_take_l0 N R n t) := by
  intro n
  induction n with
  | zero => intros; exact mg_no
  | succ n ih => exact mg_Model_take_l0B N R (mf_Model_take_l0 N R n) ih
theorem mg_Model_take (N R : Nat) : ∀ (t : mw_T), mw_F [] 0 [(49, 3), (49, 4), (49, 6), (49, 7)] t (mf_Model_take N R t) := by
  intro t
  exact (mg_jp mg_rf (mg_Model_take_l0 N R N t))
def mf_Model_isWord (N R : Nat) (x1 : Int64) (t : mw_T) : mw_X Int32 :=
  (if (t.1 49 4) = (1 : Int32) then (if (t.2.1 49 6) = x1 then (some (.inl (1 : Int32), t)) else (some (.inl (0 : Int32), t))) else (some (.inl (0 : Int32), t)))
set_option maxRecDepth 100000 in
theorem mp_Model_isWord (N R s : Nat) : ∀ (x1 : Int64) (t : mw_T), mw_W (mw_d3 mw_eI s) 0 kModel_isWord (0, [(0, .ref 49), (1, .long x1)], [], mw_E s t) (mf_Model_isWord N R x1 t) := by
  intro x1 t
  unfold mf_Model_isWord
  exact (mw_go 3 (5, [(0, .ref 49), (1, .long x1)], [.int (1 : Int32), .int (t.1 49 4)], mw_E s t) (by with_unfolding_all rfl) (mw_e2 8 21 (by with_unfolding_all rfl) (mw_go 3 (13, [(0, .ref 49), (1, .long x1)], [.long x1, .long (t.2.1 49 6)], mw_E s t) (by with_unfolding_all rfl) (mw_eL' 14 17 21 (by with_unfolding_all rfl) (by with_unfolding_all rfl) (mw_go 2 (22, [(0, .ref 49), (1, .long x1)], [.int (1 : Int32)], mw_E s t) (by with_unfolding_all rfl) (mw_ri (by with_unfolding_all rfl) (by with_unfolding_all rfl) rfl)) (mw_go 1 (22, [(0, .ref 49), (1, .long x1)], [.int (0 : Int32)], mw_E s t) (by with_unfolding_all rfl) (mw_ri (by with_unfolding_all rfl) (by with_unfolding_all rfl) rfl)))) (mw_go 1 (22, [(0, .ref 49), (1, .long x1)], [.int (0 : Int32)], mw_E s t) (by with_unfolding_all rfl) (mw_ri (by with_unfolding_all rfl) (by with_unfolding_all rfl) rfl))))
theorem mg_Model_isWord (N R : Nat) : ∀ (x1 : Int64) (t : mw_T), mw_F [] 0 [] t (mf_Model_isWord N R x1 t) := by
  intro x1 t
  exact (mg_if (mg_if (mg_rt mg_rf) (mg_rt mg_rf)) (mg_rt mg_rf))
def mf_Model_protocol (N R : Nat) (t : mw_T) : mw_X Int32 :=
  (mw_b (mf_Model_isWord N R (491327616101 : Int64) t) (fun v1 t1 => (if v1 = 0 then (mw_b (mf_Model_isWord N R (28777 : Int64) t1) (fun v2 t2 => (if v2 = 0 then (mw_b (mf_Model_isWord N R (7365492 : Int64) t2) (fun v3 t3 => (if v3 = 0 then (mw_b (mf_Model_isWord N R (7365749 : Int64) t3) (fun v4 t4 => (if v4 = 0 then (some (.inl (-1 : Int32), t4)) else (some (.inl (3 : Int32), t4))))) else (some (.inl (2 : Int32), t3))))) else (some (.inl (1 : Int32), t2))))) else (some (.inl (0 : Int32), t1)))))
set_option maxRecDepth 100000 in
theorem mp_Model_protocol (N R s : Nat) : ∀ (t : mw_T), mw_W (mw_d3 mw_eI s) 1 kModel_protocol (0, [(0, .ref 49)], [], mw_E s t) (mf_Model_protocol N R t) := by
  intro t
  unfold mf_Model_protocol
  exact (mw_go 2 (4, [(0, .ref 49)], [.long (491327616101 : Int64), .ref 49], mw_E s t) (by with_unfolding_all rfl) (mw_cI 7 [.ref 49, .long (491327616101 : Int64)] [] (by with_unfolding_all rfl) (mp_Model_isWord N R s (491327616101 : Int64) t) (by omega) (fun v1 t1 => (mw_e1 14 10 (by with_unfolding_all rfl) (mw_go 2 (18, [(0, .ref 49)], [.long (28777 : Int64), .ref 49], mw_E s t1) (by with_unfolding_all rfl) (mw_cI 21 [.ref 49, .long (28777 : Int64)] [] (by with_unfolding_all rfl) (mp_Model_isWord N R s (28777 : Int64) t1) (by omega) (fun v2 t2 => (mw_e1 28 24 (by with_unfolding_all rfl) (mw_go 2 (32, [(0, .ref 49)], [.long (7365492 : Int64), .ref 49], mw_E s t2) (by with_unfolding_all rfl) (mw_cI 35 [.ref 49, .long (7365492 : Int64)] [] (by with_unfolding_all rfl) (mp_Model_isWord N R s (7365492 : Int64) t2) (by omega) (fun v3 t3 => (mw_e1 42 38 (by with_unfolding_all rfl) (mw_go 2 (46, [(0, .ref 49)], [.long (7365749 : Int64), .ref 49], mw_E s t3) (by with_unfolding_all rfl) (mw_cI 49 [.ref 49, .long (7365749 : Int64)] [] (by with_unfolding_all rfl) (mp_Model_isWord N R s (7365749 : Int64) t3) (by omega) (fun v4 t4 => (mw_e1 56 52 (by with_unfolding_all rfl) (mw_go 1 (57, [(0, .ref 49)], [.int (-1 : Int32)], mw_E s t4) (by with_unfolding_all rfl) (mw_ri (by with_unfolding_all rfl) (by with_unfolding_all rfl) rfl)) (mw_go 2 (57, [(0, .ref 49)], [.int (3 : Int32)], mw_E s t4) (by with_unfolding_all rfl) (mw_ri (by with_unfolding_all rfl) (by with_unfolding_all rfl) rfl)))))) (mw_go 2 (57, [(0, .ref 49)], [.int (2 : Int32)], mw_E s t3) (by with_unfolding_all rfl) (mw_ri (by with_unfolding_all rfl) (by with_unfolding_all rfl) rfl)))))) (mw_go 2 (57, [(0, .ref 49)], [.int (1 : Int32)], mw_E s t2) (by with_unfolding_all rfl) (mw_ri (by with_unfolding_all rfl) (by with_unfolding_all rfl) rfl)))))) (mw_go 2 (57, [(0, .ref 49)], [.int (0 : Int32)], mw_E s t1) (by with_unfolding_all rfl) (mw_ri (by with_unfolding_all rfl) (by with_unfolding_all rfl) rfl))))))
theorem mg_Model_protocol (N R : Nat) : ∀ (t : mw_T), mw_F [] 0 [] t (mf_Model_protocol N R t) := by
  intro t
  exact (mg_b mg_rf (mg_Model_isWord N R (491327616101 : Int64) t) (mw_lq0 (by rfl)) (fun v1 t1 e1 => (mg_if (mg_b e1 (mg_Model_isWord N R (28777 : Int64) t1) (mw_lq0 (by rfl)) (fun v2 t2 e2 => (mg_if (mg_b e2 (mg_Model_isWord N R (7365492 : Int64) t2) (mw_lq0 (by rfl)) (fun v3 t3 e3 => (mg_if (mg_b e3 (mg_Model_isWord N R (7365749 : Int64) t3) (mw_lq0 (by rfl)) (fun v4 t4 e4 => (mg_if (mg_rt e4) (mg_rt e4)))) (mg_rt e3)))) (mg_rt e2)))) (mg_rt e1))))
def mf_Model_isSign (N R : Nat) (x1 : Int64) (t : mw_T) : mw_X Int32 :=
  (if (t.1 49 4) = (3 : Int32) then (if (t.2.1 49 6) = x1 then (some (.inl (1 : Int32), t)) else (some (.inl (0 : Int32), t))) else (some (.inl (0 : Int32), t)))
set_option maxRecDepth 100000 in
theorem mp_Model_isSign (N R s : Nat) : ∀ (x1 : Int64) (t : mw_T), mw_W (mw_d3 mw_eI s) 0 kModel_isSign (0, [(0, .ref 49), (1, .long x1)], [], mw_E s t) (mf_Model_isSign N R x1 t) := by
  intro x1 t
  unfold mf_Model_isSign
  exact (mw_go 3 (5, [(0, .ref 49), (1, .long x1)], [.int (3 : Int32), .int (t.1 49 4)], mw_E s t) (by with_unfolding_all rfl) (mw_e2 8 21 (by with_unfolding_all rfl) (mw_go 3 (13, [(0, .ref 49), (1, .long x1)], [.long x1, .long (t.2.1 49 6)], mw_E s t) (by with_unfolding_all rfl) (mw_eL' 14 17 21 (by with_unfolding_all rfl) (by with_unfolding_all rfl) (mw_go 2 (22, [(0, .ref 49), (1, .long x1)], [.int (1 : Int32)], mw_E s t) (by with_unfolding_all rfl) (mw_ri (by with_unfolding_all rfl) (by with_unfolding_all rfl) rfl)) (mw_go 1 (22, [(0, .ref 49), (1, .long x1)], [.int (0 : Int32)], mw_E s t) (by with_unfolding_all rfl) (mw_ri (by with_unfolding_all rfl) (by with_unfolding_all rfl) rfl)))) (mw_go 1 (22, [(0, .ref 49), (1, .long x1)], [.int (0 : Int32)], mw_E s t) (by with_unfolding_all rfl) (mw_ri (by with_unfolding_all rfl) (by with_unfolding_all rfl) rfl))))
theorem mg_Model_isSign (N R : Nat) : ∀ (x1 : Int64) (t : mw_T), mw_F [] 0 [] t (mf_Model_isSign N R x1 t) := by
  intro x1 t
  exact (mg_if (mg_if (mg_rt mg_rf) (mg_rt mg_rf)) (mg_rt mg_rf))
def mf_Model_hold (N R : Nat) (x1 : Int32) (x2 : Int32) (t : mw_T) : mw_X Unit :=
  (if mj_in (t.1 49 11) 170 = true then (if mj_in (t.1 49 11) 170 = true then (some (.inl (), (mw_wi (mw_wi (mw_wi t 60 (t.1 49 11).toNatClampNeg x1) 61 (t.1 49 11).toNatClampNeg x2) 49 11 ((t.1 49 11) + (1 : Int32))))) else none) else none)
set_option maxRecDepth 100000 in
theorem mp_Model_hold (N R s : Nat) : ∀ (x1 : Int32) (x2 : Int32) (t : mw_T), mw_W (mw_d3 mw_eV s) 0 kModel_hold (0, [(0, .ref 49), (1, .int x1), (2, .int x2)], [], mw_E s t) (mf_Model_hold N R x1 x2 t) := by
  intro x1 x2 t
  unfold mf_Model_hold
  exact (mw_go 5 (9, [(0, .ref 49), (1, .int x1), (2, .int x2)], [.int x1, .int (t.1 49 11), .ref 60], mw_E s t) (by with_unfolding_all rfl) (mw_is 10 (by with_unfolding_all rfl) (by with_unfolding_all rfl) (by with_unfolding_all rfl) (mw_go 5 (19, [(0, .ref 49), (1, .int x1), (2, .int x2)], [.int x2, .int (t.1 49 11), .ref 61], mw_E s (mw_wi t 60 (t.1 49 11).toNatClampNeg x1)) (by with_unfolding_all rfl) (mw_is 20 (by with_unfolding_all rfl) (by with_unfolding_all rfl) (by with_unfolding_all rfl) (mw_go 6 (30, [(0, .ref 49), (1, .int x1), (2, .int x2)], [], mw_E s (mw_wi (mw_wi (mw_wi t 60 (t.1 49 11).toNatClampNeg x1) 61 (t.1 49 11).toNatClampNeg x2) 49 11 ((t.1 49 11) + (1 : Int32)))) (by with_unfolding_all rfl) (mw_rv (by with_unfolding_all rfl) (by with_unfolding_all rfl) rfl))))))
theorem mg_Model_hold (N R : Nat) : ∀ (x1 : Int32) (x2 : Int32) (t : mw_T), mw_F [] 0 [(49, 11), (60, 1000), (61, 1000)] t (mf_Model_hold N R x1 x2 t) := by
  intro x1 x2 t
  exact (mg_gd (mg_gd (mg_rt (mg_wiB 49 11 (by rfl) (Or.inr rfl) (mg_wiB 61 1000 (by rfl) (Or.inl rfl) (mg_wiB 60 1000 (by rfl) (Or.inl rfl) mg_rf))))))
def mf_Model_open_b32 (N R : Nat) (x1 : Int32) (x2 : Int32) (y0 : Int32) (t : mw_T) : mw_X Unit :=
  (if y0 = 0 ∨ y0 = 1 then (mw_b (mf_Model_hold N R x1 x2 (mw_wi t 49 7 y0)) (fun _ t1 => (some (.inl (), t1)))) else none)
def mf_Model_open_b27 (N R : Nat) (x1 : Int32) (x2 : Int32) (t : mw_T) : mw_X Unit :=
  (mf_Model_open_b32 N R x1 x2 (1 : Int32) t)
def mf_Model_open (N R : Nat) (x1 : Int32) (x2 : Int32) (t : mw_T) : mw_X Unit :=
  (if (t.1 49 7) = 0 then (if (8 : Int32) < ((t.1 49 12) + (1 : Int32)) then (mf_Model_open_b27 N R x1 x2 (mw_wi t 49 12 ((t.1 49 12) + (1 : Int32)))) else (mf_Model_open_b32 N R x1 x2 (0 : Int32) (mw_wi t 49 12 ((t.1 49 12) + (1 : Int32))))) else (mf_Model_open_b27 N R x1 x2 (mw_wi t 49 12 ((t.1 49 12) + (1 : Int32)))))
set_option maxRecDepth 100000 in
theorem mp_Model_open_b32 (N R s : Nat) : ∀ (x1 : Int32) (x2 : Int32) (y0 : Int32) (t : mw_T), mw_W (mw_d3 mw_eV s) 1 kModel_open (32, [(0, .ref 49), (1, .int x1), (2, .int x2)], [.int y0, .ref 49], mw_E s t) (mf_Model_open_b32 N R x1 x2 y0 t) := by
  intro x1 x2 y0 t
  unfold mf_Model_open_b32
  exact (mw_pz (ci := 11) (f := 7) 35 (by with_unfolding_all rfl) (by with_unfolding_all rfl) (by with_unfolding_all rfl) (mw_go 3 (38, [(0, .ref 49), (1, .int x1), (2, .int x2)], [.int x2, .int x1, .ref 49], mw_E s (mw_wi t 49 7 y0)) (by with_unfolding_all rfl) (mw_cV 41 [.ref 49, .int x1, .int x2] [] (by with_unfolding_all rfl) (mp_Model_hold N R s x1 x2 (mw_wi t 49 7 y0)) (by omega) (fun _ t1 => (mw_rv (by with_unfolding_all rfl) (by with_unfolding_all rfl) rfl)))))
set_option maxRecDepth 100000 in
theorem mp_Model_open_b27 (N R s : Nat) : ∀ (x1 : Int32) (x2 : Int32) (t : mw_T), mw_W (mw_d3 mw_eV s) 1 kModel_open (27, [(0, .ref 49), (1, .int x1), (2, .int x2)], [.ref 49], mw_E s t) (mf_Model_open_b27 N R x1 x2 t) := by
  intro x1 x2 t
  unfold mf_Model_open_b27
  exact (mw_go 2 (32, [(0, .ref 49), (1, .int x1), (2, .int x2)], [.int (1 : Int32), .ref 49], mw_E s t) (by with_unfolding_all rfl) (mw_jp [(0, .ref 49), (1, .int x1), (2, .int x2)] (by with_unfolding_all rfl) (by with_unfolding_all rfl) (by with_unfolding_all rfl) (mp_Model_open_b32 N R s x1 x2 (1 : Int32) t)))
set_option maxRecDepth 100000 in
theorem mp_Model_open (N R s : Nat) : ∀ (x1 : Int32) (x2 : Int32) (t : mw_T), mw_W (mw_d3 mw_eV s) 1 kModel_open (0, [(0, .ref 49), (1, .int x1), (2, .int x2)], [], mw_E s t) (mf_Model_open N R x1 x2 t) := by
  intro x1 x2 t
  unfold mf_Model_open
  exact (mw_go 9 (15, [(0, .ref 49), (1, .int x1), (2, .int x2)], [.int (t.1 49 7), .ref 49], mw_E s (mw_wi t 49 12 ((t.1 49 12) + (1 : Int32)))) (by with_unfolding_all rfl) (mw_e1 18 27 (by with_unfolding_all rfl) (mw_go 3 (24, [(0, .ref 49), (1, .int x1), (2, .int x2)], [.int (8 : Int32), .int ((t.1 49 12) + (1 : Int32)), .ref 49], mw_E s (mw_wi t 49 12 ((t.1 49 12) + (1 : Int32)))) (by with_unfolding_all rfl) (mw_g2 27 31 (by with_unfolding_all rfl) (mw_jp [(0, .ref 49), (1, .int x1), (2, .int x2)] (by with_unfolding_all rfl) (by with_unfolding_all rfl) (by with_unfolding_all rfl) (mp_Model_open_b27 N R s x1 x2 (mw_wi t 49 12 ((t.1 49 12) + (1 : Int32))))) (mw_go 1 (32, [(0, .ref 49), (1, .int x1), (2, .int x2)], [.int (0 : Int32), .ref 49], mw_E s (mw_wi t 49 12 ((t.1 49 12) + (1 : Int32)))) (by with_unfolding_all rfl) (mw_jp [(0, .ref 49), (1, .int x1), (2, .int x2)] (by with_unfolding_all rfl) (by with_unfolding_all rfl) (by with_unfolding_all rfl) (mp_Model_open_b32 N R s x1 x2 (0 : Int32) (mw_wi t 49 12 ((t.1 49 12) + (1 : Int32)))))))) (mw_jp [(0, .ref 49), (1, .int x1), (2, .int x2)] (by with_unfolding_all rfl) (by with_unfolding_all rfl) (by with_unfolding_all rfl) (mp_Model_open_b27 N R s x1 x2 (mw_wi t 49 12 ((t.1 49 12) + (1 : Int32)))))))
theorem mg_Model_open_b32 (N R : Nat) : ∀ (x1 : Int32) (x2 : Int32) (y0 : Int32) (t : mw_T), mw_F [] 0 [(49, 7), (49, 11), (49, 12), (60, 1000), (61, 1000)] t (mf_Model_open_b32 N R x1 x2 y0 t) := by
  intro x1 x2 y0 t
  exact (mg_gd (mg_b (mg_wiB 49 7 (by rfl) (Or.inr rfl) mg_rf) (mg_Model_hold N R x1 x2 (mw_wi t 49 7 y0)) (mw_lq0 (by rfl)) (fun _ t1 e1 => (mg_rt e1))))
theorem mg_Model_open_b27 (N R : Nat) : ∀ (x1 : Int32) (x2 : Int32) (t : mw_T), mw_F [] 0 [(49, 7), (49, 11), (49, 12), (60, 1000), (61, 1000)] t (mf_Model_open_b27 N R x1 x2 t) := by
  intro x1 x2 t
  exact (mg_jp mg_rf (mg_Model_open_b32 N R x1 x2 (1 : Int32) t))
theorem mg_Model_open (N R : Nat) : ∀ (x1 : Int32) (x2 : Int32) (t : mw_T), mw_F [] 0 [(49, 7), (49, 11), (49, 12), (60, 1000), (61, 1000)] t (mf_Model_open N R x1 x2 t) := by
  intro x1 x2 t
  exact (mg_if (mg_if (mg_jp (mg_wiB 49 12 (by rfl) (Or.inr rfl) mg_rf) (mg_Model_open_b27 N R x1 x2 (mw_wi t 49 12 ((t.1 49 12) + (1 : Int32))))) (mg_jp (mg_wiB 49 12 (by rfl) (Or.inr rfl) mg_rf) (mg_Model_open_b32 N R x1 x2 (0 : Int32) (mw_wi t 49 12 ((t.1 49 12) + (1 : Int32)))))) (mg_jp (mg_wiB 49 12 (by rfl) (Or.inr rfl) mg_rf) (mg_Model_open_b27 N R x1 x2 (mw_wi t 49 12 ((t.1 49 12) + (1 : Int32))))))
def mf_Model_node_b77 (N R : Nat) (y0 : Int32) (y1 : Int32) (t : mw_T) : mw_X Unit :=
  (if mj_in y1 170 = true then (if mj_in (t.1 49 10) 170 = true then (some (.inl (), (mw_wi (mw_wi (mw_wi (mw_wi t 55 y1.toNatClampNeg y0) 59 (t.1 49 10).toNatClampNeg (t.1 49 9)) 49 10 ((t.1 49 10) + (1 : Int32))) 49 9 ((t.1 49 9) + (1 : Int32))))) else none) else none)
def mf_Model_node (N R : Nat) (x1 : Int32) (x2 : Int32) (x3 : Int32) (x4 : Int32) (x5 : Int64) (t : mw_T) : mw_X Unit :=
  (if mj_in (t.1 49 9) 170 = true then (if mj_in (t.1 49 9) 170 = true then (if mj_in (t.1 49 9) 170 = true then (if mj_in (t.1 49 9) 170 = true then (if mj_in (t.1 49 9) 170 = true then (if x3 < 0 then (mf_Model_node_b77 N R (t.1 49 9) (t.1 49 9) (mw_wl (mw_wi (mw_wi (mw_wi (mw_wi t 51 (t.1 49 9).toNatClampNeg x1) 52 (t.1 49 9).toNatClampNeg x2) 53 (t.1 49 9).toNatClampNeg x3) 54 (t.1 49 9).toNatClampNeg x4) 58 (t.1 49 9).toNatClampNeg x5)) else (if mj_in x3 170 = true then (mf_Model_node_b77 N R (t.1 55 x3.toNatClampNeg) (t.1 49 9) (mw_wl (mw_wi (mw_wi (mw_wi (mw_wi t 51 (t.1 49 9).toNatClampNeg x1) 52 (t.1 49 9).toNatClampNeg x2) 53 (t.1 49 9).toNatClampNeg x3) 54 (t.1 49 9).toNatClampNeg x4) 58 (t.1 49 9).toNatClampNeg x5)) else none)) else none) else none) else none) else none) else none)
set_option maxRecDepth 100000 in
theorem mp_Model_node_b77 (N R s : Nat) : ∀ (y0 : Int32) (y1 : Int32) (t : mw_T), mw_W (mw_d3 mw_eV s) 0 kModel_node (77, [(0, .ref 49)], [.int y0, .int y1, .ref 55], mw_E s t) (mf_Model_node_b77 N R y0 y1 t) := by
  intro y0 y1 t
  unfold mf_Model_node_b77
  exact (mw_is 78 (by with_unfolding_all rfl) (by with_unfolding_all rfl) (by with_unfolding_all rfl) (mw_go 6 (90, [(0, .ref 49)], [.int (t.1 49 9), .int (t.1 49 10), .ref 59], mw_E s (mw_wi t 55 y1.toNatClampNeg y0)) (by with_unfolding_all rfl) (mw_is 91 (by with_unfolding_all rfl) (by with_unfolding_all rfl) (by with_unfolding_all rfl) (mw_go 12 (111, [(0, .ref 49)], [], mw_E s (mw_wi (mw_wi (mw_wi (mw_wi t 55 y1.toNatClampNeg y0) 59 (t.1 49 10).toNatClampNeg (t.1 49 9)) 49 10 ((t.1 49 10) + (1 : Int32))) 49 9 ((t.1 49 9) + (1 : Int32)))) (by with_unfolding_all rfl) (mw_rv (by with_unfolding_all rfl) (by with_unfolding_all rfl) rfl)))))
set_option maxRecDepth 100000 in
theorem mp_Model_node (N R s : Nat) : ∀ (x1 : Int32) (x2 : Int32) (x3 : Int32) (x4 : Int32) (x5 : Int64) (t : mw_T), mw_W (mw_d3 mw_eV s) 0 kModel_node (0, [(0, .ref 49), (1, .int x1), (2, .int x2), (3, .int x3), (4, .int x4), (5, .long x5)], [], mw_E s t) (mf_Model_node N R x1 x2 x3 x4 x5 t) := by
  intro x1 x2 x3 x4 x5 t
  unfold mf_Model_node
  exact (mw_go 5 (9, [(0, .ref 49), (1, .int x1), (2, .int x2), (3, .int x3), (4, .int x4), (5, .long x5)], [.int x1, .int (t.1 49 9), .ref 51], mw_E s t) (by with_unfolding_all rfl) (mw_is 10 (by with_unfolding_all rfl) (by with_unfolding_all rfl) (by with_unfolding_all rfl) (mw_go 5 (19, [(0, .ref 49), (1, .int x1), (2, .int x2), (3, .int x3), (4, .int x4), (5, .long x5)], [.int x2, .int (t.1 49 9), .ref 52], mw_E s (mw_wi t 51 (t.1 49 9).toNatClampNeg x1)) (by with_unfolding_all rfl) (mw_is 20 (by with_unfolding_all rfl) (by with_unfolding_all rfl) (by with_unfolding_all rfl) (mw_go 5 (29, [(0, .ref 49), (1, .int x1), (2, .int x2), (3, .int x3), (4, .int x4), (5, .long x5)], [.int x3, .int (t.1 49 9), .ref 53], mw_E s (mw_wi (mw_wi t 51 (t.1 49 9).toNatClampNeg x1) 52 (t.1 49 9).toNatClampNeg x2)) (by with_unfolding_all rfl) (mw_is 30 (by with_unfolding_all rfl) (by with_unfolding_all rfl) (by with_unfolding_all rfl) (mw_go 5 (40, [(0, .ref 49), (1, .int x1), (2, .int x2), (3, .int x3), (4, .int x4), (5, .long x5)], [.int x4, .int (t.1 49 9), .ref 54], mw_E s (mw_wi (mw_wi (mw_wi t 51 (t.1 49 9).toNatClampNeg x1) 52 (t.1 49 9).toNatClampNeg x2) 53 (t.1 49 9).toNatClampNeg x3)) (by with_unfolding_all rfl) (mw_is 41 (by with_unfolding_all rfl) (by with_unfolding_all rfl) (by with_unfolding_all rfl) (mw_go 5 (51, [(0, .ref 49), (1, .int x1), (2, .int x2), (3, .int x3), (4, .int x4), (5, .long x5)], [.long x5, .int (t.1 49 9), .ref 58], mw_E s (mw_wi (mw_wi (mw_wi (mw_wi t 51 (t.1 49 9).toNatClampNeg x1) 52 (t.1 49 9).toNatClampNeg x2) 53 (t.1 49 9).toNatClampNeg x3) 54 (t.1 49 9).toNatClampNeg x4)) (by with_unfolding_all rfl) (mw_ls 52 (by with_unfolding_all rfl) (by with_unfolding_all rfl) (by with_unfolding_all rfl) (mw_go 5 (61, [(0, .ref 49), (1, .int x1), (2, .int x2), (3, .int x3), (4, .int x4), (5, .long x5)], [.int x3, .int (t.1 49 9), .ref 55], mw_E s (mw_wl (mw_wi (mw_wi (mw_wi (mw_wi t 51 (t.1 49 9).toNatClampNeg x1) 52 (t.1 49 9).toNatClampNeg x2) 53 (t.1 49 9).toNatClampNeg x3) 54 (t.1 49 9).toNatClampNeg x4) 58 (t.1 49 9).toNatClampNeg x5)) (by with_unfolding_all rfl) (mw_l1 73 64 (by with_unfolding_all rfl) (mw_go 2 (77, [(0, .ref 49), (1, .int x1), (2, .int x2), (3, .int x3), (4, .int x4), (5, .long x5)], [.int (t.1 49 9), .int (t.1 49 9), .ref 55], mw_E s (mw_wl (mw_wi (mw_wi (mw_wi (mw_wi t 51 (t.1 49 9).toNatClampNeg x1) 52 (t.1 49 9).toNatClampNeg x2) 53 (t.1 49 9).toNatClampNeg x3) 54 (t.1 49 9).toNatClampNeg x4) 58 (t.1 49 9).toNatClampNeg x5)) (by with_unfolding_all rfl) (mw_jp [(0, .ref 49)] (by with_unfolding_all rfl) (by with_unfolding_all rfl) (by with_unfolding_all rfl) (mp_Model_node_b77 N R s (t.1 49 9) (t.1 49 9) (mw_wl (mw_wi (mw_wi (mw_wi (mw_wi t 51 (t.1 49 9).toNatClampNeg x1) 52 (t.1 49 9).toNatClampNeg x2) 53 (t.1 49 9).toNatClampNeg x3) 54 (t.1 49 9).toNatClampNeg x4) 58 (t.1 49 9).toNatClampNeg x5)))) (mw_go 3 (69, [(0, .ref 49), (1, .int x1), (2, .int x2), (3, .int x3), (4, .int x4), (5, .long x5)], [.int x3, .ref 55, .int (t.1 49 9), .ref 55], mw_E s (mw_wl (mw_wi (mw_wi (mw_wi (mw_wi t 51 (t.1 49 9).toNatClampNeg x1) 52 (t.1 49 9).toNatClampNeg x2) 53 (t.1 49 9).toNatClampNeg x3) 54 (t.1 49 9).toNatClampNeg x4) 58 (t.1 49 9).toNatClampNeg x5)) (by with_unfolding_all rfl) (mw_ia 70 (by with_unfolding_all rfl) (by with_unfolding_all rfl) (by with_unfolding_all rfl) (mw_go 0 (70, [(0, .ref 49), (1, .int x1), (2, .int x2), (3, .int x3), (4, .int x4), (5, .long x5)], [.int (t.1 55 x3.toNatClampNeg), .int (t.1 49 9), .ref 55], mw_E s (mw_wl (mw_wi (mw_wi (mw_wi (mw_wi t 51 (t.1 49 9).toNatClampNeg x1) 52 (t.1 49 9).toNatClampNeg x2) 53 (t.1 49 9).toNatClampNeg x3) 54 (t.1 49 9).toNatClampNeg x4) 58 (t.1 49 9).toNatClampNeg x5)) (by with_unfolding_all rfl) (mw_go 1 (77, [(0, .ref 49), (1, .int x1), (2, .int x2), (3, .int x3), (4, .int x4), (5, .long x5)], [.int (t.1 55 x3.toNatClampNeg), .int (t.1 49 9), .ref 55], mw_E s (mw_wl (mw_wi (mw_wi (mw_wi (mw_wi t 51 (t.1 49 9).toNatClampNeg x1) 52 (t.1 49 9).toNatClampNeg x2) 53 (t.1 49 9).toNatClampNeg x3) 54 (t.1 49 9).toNatClampNeg x4) 58 (t.1 49 9).toNatClampNeg x5)) (by with_unfolding_all rfl) (mw_jp [(0, .ref 49)] (by with_unfolding_all rfl) (by with_unfolding_all rfl) (by with_unfolding_all rfl) (mp_Model_node_b77 N R s (t.1 55 x3.toNatClampNeg) (t.1 49 9) (mw_wl (mw_wi (mw_wi (mw_wi (mw_wi t 51 (t.1 49 9).toNatClampNeg x1) 52 (t.1 49 9).toNatClampNeg x2) 53 (t.1 49 9).toNatClampNeg x3) 54 (t.1 49 9).toNatClampNeg x4) 58 (t.1 49 9).toNatClampNeg x5)))))))))))))))))))
theorem mg_Model_node_b77 (N R : Nat) : ∀ (y0 : Int32) (y1 : Int32) (t : mw_T), mw_F [] 0 [(49, 9), (49, 10), (51, 1000), (52, 1000), (53, 1000), (54, 1000), (55, 1000), (58, 1000), (59, 1000)] t (mf_Model_node_b77 N R y0 y1 t) := by
  intro y0 y1 t
  exact (mg_gd (mg_gd (mg_rt (mg_wiB 49 9 (by rfl) (Or.inr rfl) (mg_wiB 49 10 (by rfl) (Or.inr rfl) (mg_wiB 59 1000 (by rfl) (Or.inl rfl) (mg_wiB 55 1000 (by rfl) (Or.inl rfl) mg_rf)))))))
theorem mg_Model_node (N R : Nat) : ∀ (x1 : Int32) (x2 : Int32) (x3 : Int32) (x4 : Int32) (x5 : Int64) (t : mw_T), mw_F [] 0 [(49, 9), (49, 10), (51, 1000), (52, 1000), (53, 1000), (54, 1000), (55, 1000), (58, 1000), (59, 1000)] t (mf_Model_node N R x1 x2 x3 x4 x5 t) := by
  intro x1 x2 x3 x4 x5 t
  exact (mg_gd (mg_gd (mg_gd (mg_gd (mg_gd (mg_if (mg_jp (mg_wlB 58 1000 (by rfl) (Or.inl rfl) (mg_wiB 54 1000 (by rfl) (Or.inl rfl) (mg_wiB 53 1000 (by rfl) (Or.inl rfl) (mg_wiB 52 1000 (by rfl) (Or.inl rfl) (mg_wiB 51 1000 (by rfl) (Or.inl rfl) mg_rf))))) (mg_Model_node_b77 N R (t.1 49 9) (t.1 49 9) (mw_wl (mw_wi (mw_wi (mw_wi (mw_wi t 51 (t.1 49 9).toNatClampNeg x1) 52 (t.1 49 9).toNatClampNeg x2) 53 (t.1 49 9).toNatClampNeg x3) 54 (t.1 49 9).toNatClampNeg x4) 58 (t.1 49 9).toNatClampNeg x5))) (mg_gd (mg_jp (mg_wlB 58 1000 (by rfl) (Or.inl rfl) (mg_wiB 54 1000 (by rfl) (Or.inl rfl) (mg_wiB 53 1000 (by rfl) (Or.inl rfl) (mg_wiB 52 1000 (by rfl) (Or.inl rfl) (mg_wiB 51 1000 (by rfl) (Or.inl rfl) mg_rf))))) (mg_Model_node_b77 N R (t.1 55 x3.toNatClampNeg) (t.1 49 9) (mw_wl (mw_wi (mw_wi (mw_wi (mw_wi t 51 (t.1 49 9).toNatClampNeg x1) 52 (t.1 49 9).toNatClampNeg x2) 53 (t.1 49 9).toNatClampNeg x3) 54 (t.1 49 9).toNatClampNeg x4) 58 (t.1 49 9).toNatClampNeg x5))))))))))
def mf_Model_need_b21 (N R : Nat) (y0 : Int32) (t : mw_T) : mw_X Unit :=
  (if y0 = 0 ∨ y0 = 1 then (mw_b (mf_Model_take N R (mw_wi t 49 7 y0)) (fun _ t2 => (some (.inl (), t2)))) else none)
def mf_Model_need_b16 (N R : Nat) (t : mw_T) : mw_X Unit :=
  (mf_Model_need_b21 N R (1 : Int32) t)
def mf_Model_need (N R : Nat) (x1 : Int64) (t : mw_T) : mw_X Unit :=
  (if (t.1 49 7) = 0 then (mw_b (mf_Model_isSign N R x1 t) (fun v1 t1 => (if v1 = 0 then (mf_Model_need_b16 N R t1) else (mf_Model_need_b21 N R (0 : Int32) t1)))) else (mf_Model_need_b16 N R t))
set_option maxRecDepth 100000 in
theorem mp_Model_need_b21 (N R s : Nat) : ∀ (y0 : Int32) (t : mw_T), mw_W (mw_d3 mw_eV s) 2 kModel_need (21, [(0, .ref 49)], [.int y0, .ref 49], mw_E s t) (mf_Model_need_b21 N R y0 t) := by
  intro y0 t
  unfold mf_Model_need_b21
  exact (mw_pz (ci := 11) (f := 7) 24 (by with_unfolding_all rfl) (by with_unfolding_all rfl) (by with_unfolding_all rfl) (mw_go 1 (25, [(0, .ref 49)], [.ref 49], mw_E s (mw_wi t 49 7 y0)) (by with_unfolding_all rfl) (mw_cV 28 [.ref 49] [] (by with_unfolding_all rfl) (mp_Model_take N R s (mw_wi t 49 7 y0)) (by omega) (fun _ t2 => (mw_rv (by with_unfolding_all rfl) (by with_unfolding_all rfl) rfl)))))
set_option maxRecDepth 100000 in
theorem mp_Model_need_b16 (N R s : Nat) : ∀ (t : mw_T), mw_W (mw_d3 mw_eV s) 2 kModel_need (16, [(0, .ref 49)], [.ref 49], mw_E s t) (mf_Model_need_b16 N R t) := by
  intro t
  unfold mf_Model_need_b16
  exact (mw_go 2 (21, [(0, .ref 49)], [.int (1 : Int32), .ref 49], mw_E s t) (by with_unfolding_all rfl) (mw_jp [(0, .ref 49)] (by with_unfolding_all rfl) (by with_unfolding_all rfl) (by with_unfolding_all rfl) (mp_Model_need_b21 N R s (1 : Int32) t)))
set_option maxRecDepth 100000 in
theorem mp_Model_need (N R s : Nat) : ∀ (x1 : Int64) (t : mw_T), mw_W (mw_d3 mw_eV s) 2 kModel_need (0, [(0, .ref 49), (1, .long x1)], [], mw_E s t) (mf_Model_need N R x1 t) := by
  intro x1 t
  unfold mf_Model_need
  exact (mw_go 3 (5, [(0, .ref 49), (1, .long x1)], [.int (t.1 49 7), .ref 49], mw_E s t) (by with_unfolding_all rfl) (mw_e1 8 16 (by with_unfolding_all rfl) (mw_go 2 (10, [(0, .ref 49), (1, .long x1)], [.long x1, .ref 49, .ref 49], mw_E s t) (by with_unfolding_all rfl) (mw_cI 13 [.ref 49, .long x1] [.ref 49] (by with_unfolding_all rfl) (mp_Model_isSign N R s x1 t) (by omega) (fun v1 t1 => (mw_e1 16 20 (by with_unfolding_all rfl) (mw_jp [(0, .ref 49)] (by with_unfolding_all rfl) (by with_unfolding_all rfl) (by with_unfolding_all rfl) (mp_Model_need_b16 N R s t1)) (mw_go 1 (21, [(0, .ref 49), (1, .long x1)], [.int (0 : Int32), .ref 49], mw_E s t1) (by with_unfolding_all rfl) (mw_jp [(0, .ref 49)] (by with_unfolding_all rfl) (by with_unfolding_all rfl) (by with_unfolding_all rfl) (mp_Model_need_b21 N R s (0 : Int32) t1))))))) (mw_jp [(0, .ref 49)] (by with_unfolding_all rfl) (by with_unfolding_all rfl) (by with_unfolding_all rfl) (mp_Model_need_b16 N R s t))))
theorem mg_Model_need_b21 (N R : Nat) : ∀ (y0 : Int32) (t : mw_T), mw_F [] 0 [(49, 3), (49, 4), (49, 6), (49, 7)] t (mf_Model_need_b21 N R y0 t) := by
  intro y0 t
  exact (mg_gd (mg_b (mg_wiB 49 7 (by rfl) (Or.inr rfl) mg_rf) (mg_Model_take N R (mw_wi t 49 7 y0)) (mw_lq0 (by rfl)) (fun _ t2 e2 => (mg_rt e2))))
theorem mg_Model_need_b16 (N R : Nat) : ∀ (t : mw_T), mw_F [] 0 [(49, 3), (49, 4), (49, 6), (49, 7)] t (mf_Model_need_b16 N R t) := by
  intro t
  exact (mg_jp mg_rf (mg_Model_need_b21 N R (1 : Int32) t))
theorem mg_Model_need (N R : Nat) : ∀ (x1 : Int64) (t : mw_T), mw_F [] 0 [(49, 3), (49, 4), (49, 6), (49, 7)] t (mf_Model_need N R x1 t) := by
  intro x1 t
  exact (mg_if (mg_b mg_rf (mg_Model_isSign N R x1 t) (mw_lq0 (by rfl)) (fun v1 t1 e1 => (mg_if (mg_jp e1 (mg_Model_need_b16 N R t1)) (mg_jp e1 (mg_Model_need_b21 N R (0 : Int32) t1))))) (mg_jp mg_rf (mg_Model_need_b16 N R t)))
def mf_Model_needNumber_b30 (N R : Nat) (y0 : Int32) (t : mw_T) : mw_X Int64 :=
  (if y0 = 0 ∨ y0 = 1 then (mw_b (mf_Model_take N R (mw_wi t 49 7 y0)) (fun _ t1 => (some (.inl (t.2.1 49 6), t1)))) else none)
def mf_Model_needNumber_b25 (N R : Nat) (t : mw_T) : mw_X Int64 :=
  (mf_Model_needNumber_b30 N R (1 : Int32) t)
def mf_Model_needNumber (N R : Nat) (x1 : Int64) (t : mw_T) : mw_X Int64 :=
  (if (t.1 49 7) = 0 then (if (t.1 49 4) = (2 : Int32) then (if x1 < (t.2.1 49 6) then (mf_Model_needNumber_b25 N R t) else (mf_Model_needNumber_b30 N R (0 : Int32) t)) else (mf_Model_needNumber_b25 N R t)) else (mf_Model_needNumber_b25 N R t))
set_option maxRecDepth 100000 in
theorem mp_Model_needNumber_b30 (N R s : Nat) : ∀ (y0 : Int32) (t : mw_T), mw_W (mw_d3 mw_eL s) 2 kModel_needNumber (30, [(0, .ref 49)], [.int y0, .ref 49], mw_E s t) (mf_Model_needNumber_b30 N R y0 t) := by
  intro y0 t
  unfold mf_Model_needNumber_b30
  exact (mw_pz (ci := 11) (f := 7) 33 (by with_unfolding_all rfl) (by with_unfolding_all rfl) (by with_unfolding_all rfl) (mw_go 4 (39, [(3, .long (t.2.1 49 6)), (0, .ref 49)], [.ref 49], mw_E s (mw_wi t 49 7 y0)) (by with_unfolding_all rfl) (mw_cV 42 [.ref 49] [] (by with_unfolding_all rfl) (mp_Model_take N R s (mw_wi t 49 7 y0)) (by omega) (fun _ t1 => (mw_go 1 (43, [(3, .long (t.2.1 49 6)), (0, .ref 49)], [.long (t.2.1 49 6)], mw_E s t1) (by with_unfolding_all rfl) (mw_rl (by with_unfolding_all rfl) (by with_unfolding_all rfl) rfl))))))
set_option maxRecDepth 100000 in
theorem mp_Model_needNumber_b25 (N R s : Nat) : ∀ (t : mw_T), mw_W (mw_d3 mw_eL s) 2 kModel_needNumber (25, [(0, .ref 49)], [.ref 49], mw_E s t) (mf_Model_needNumber_b25 N R t) := by
  intro t
  unfold mf_Model_needNumber_b25
  exact (mw_go 2 (30, [(0, .ref 49)], [.int (1 : Int32), .ref 49], mw_E s t) (by with_unfolding_all rfl) (mw_jp [(0, .ref 49)] (by with_unfolding_all rfl) (by with_unfolding_all rfl) (by with_unfolding_all rfl) (mp_Model_needNumber_b30 N R s (1 : Int32) t)))
set_option maxRecDepth 100000 in
theorem mp_Model_needNumber (N R s : Nat) : ∀ (x1 : Int64) (t : mw_T), mw_W (mw_d3 mw_eL s) 2 kModel_needNumber (0, [(0, .ref 49), (1, .long x1)], [], mw_E s t) (mf_Model_needNumber N R x1 t) := by
  intro x1 t
  unfold mf_Model_needNumber
  exact (mw_go 3 (5, [(0, .ref 49), (1, .long x1)], [.int (t.1 49 7), .ref 49], mw_E s t) (by with_unfolding_all rfl) (mw_e1 8 25 (by with_unfolding_all rfl) (mw_go 3 (13, [(0, .ref 49), (1, .long x1)], [.int (2 : Int32), .int (t.1 49 4), .ref 49], mw_E s t) (by with_unfolding_all rfl) (mw_e2 16 25 (by with_unfolding_all rfl) (mw_go 3 (21, [(0, .ref 49), (1, .long x1)], [.long x1, .long (t.2.1 49 6), .ref 49], mw_E s t) (by with_unfolding_all rfl) (mw_gL 22 25 29 (by with_unfolding_all rfl) (by with_unfolding_all rfl) (mw_jp [(0, .ref 49)] (by with_unfolding_all rfl) (by with_unfolding_all rfl) (by with_unfolding_all rfl) (mp_Model_needNumber_b25 N R s t)) (mw_go 1 (30, [(0, .ref 49), (1, .long x1)], [.int (0 : Int32), .ref 49], mw_E s t) (by with_unfolding_all rfl) (mw_jp [(0, .ref 49)] (by with_unfolding_all rfl) (by with_unfolding_all rfl) (by with_unfolding_all rfl) (mp_Model_needNumber_b30 N R s (0 : Int32) t))))) (mw_jp [(0, .ref 49)] (by with_unfolding_all rfl) (by with_unfolding_all rfl) (by with_unfolding_all rfl) (mp_Model_needNumber_b25 N R s t)))) (mw_jp [(0, .ref 49)] (by with_unfolding_all rfl) (by with_unfolding_all rfl) (by with_unfolding_all rfl) (mp_Model_needNumber_b25 N R s t))))
theorem mg_Model_needNumber_b30 (N R : Nat) : ∀ (y0 : Int32) (t : mw_T), mw_F [] 0 [(49, 3), (49, 4), (49, 6), (49, 7)] t (mf_Model_needNumber_b30 N R y0 t) := by
  intro y0 t
  exact (mg_gd (mg_b (mg_wiB 49 7 (by rfl) (Or.inr rfl) mg_rf) (mg_Model_take N R (mw_wi t 49 7 y0)) (mw_lq0 (by rfl)) (fun _ t1 e1 => (mg_rt e1))))
theorem mg_Model_needNumber_b25 (N R : Nat) : ∀ (t : mw_T), mw_F [] 0 [(49, 3), (49, 4), (49, 6), (49, 7)] t (mf_Model_needNumber_b25 N R t) := by
  intro t
  exact (mg_jp mg_rf (mg_Model_needNumber_b30 N R (1 : Int32) t))
theorem mg_Model_needNumber (N R : Nat) : ∀ (x1 : Int64) (t : mw_T), mw_F [] 0 [(49, 3), (49, 4), (49, 6), (49, 7)] t (mf_Model_needNumber N R x1 t) := by
  intro x1 t
  exact (mg_if (mg_if (mg_if (mg_jp mg_rf (mg_Model_needNumber_b25 N R t)) (mg_jp mg_rf (mg_Model_needNumber_b30 N R (0 : Int32) t))) (mg_jp mg_rf (mg_Model_needNumber_b25 N R t))) (mg_jp mg_rf (mg_Model_needNumber_b25 N R t)))
def mf_Model_address_b20 (N R : Nat) (r4 : Int64 → Int32 → mw_T → mw_X Int64) (x1 : Int64) (x3 : Int32) (t : mw_T) : mw_X Int64 :=
  (mw_b (mf_Model_needNumber N R (255 : Int64) t) (fun v2 t2 => (r4 ((x1 * (256 : Int64)) + v2) (x3 + Int32.ofInt (1)) t2)))
def mf_Model_address_l4B (N R : Nat) (r4 : Int64 → Int32 → mw_T → mw_X Int64) (x1 : Int64) (x3 : Int32) (t : mw_T) : mw_X Int64 :=
  (if x3 < (4 : Int32) then (if 0 < x3 then (mw_b (mf_Model_need N R (46 : Int64) t) (fun _ t1 => (mf_Model_address_b20 N R r4 x1 x3 t1))) else (mf_Model_address_b20 N R r4 x1 x3 t)) else (some (.inl x1, t)))
def mf_Model_address_l4 (N R : Nat) : Nat → Int64 → Int32 → mw_T → mw_X Int64
  | 0 => fun _ _ _ => none
  | n + 1 => fun  x1 x3 t => mf_Model_address_l4B N R (mf_Model_address_l4 N R n)  x1 x3 t
def mf_Model_address (N R : Nat) (t : mw_T) : mw_X Int64 :=
  (mf_Model_address_l4 N R N (0 : Int64) (0 : Int32) t)
set_option maxRecDepth 100000 in
theorem mp_Model_address_b20 (N R s : Nat) (r4 : Int64 → Int32 → mw_T → mw_X Int64) (h4 : ∀ (x1 : Int64) (x3 : Int32) (t : mw_T), mw_W (mw_d3 mw_eL s) 3 kModel_address (4, [(0, .ref 49), (1, .long x1), (3, .int x3)], [], mw_E s t) (r4 x1 x3 t)) : ∀ (x1 : Int64) (x3 : Int32) (t : mw_T), mw_W (mw_d3 mw_eL s) 3 kModel_address (20, [(0, .ref 49), (1, .long x1), (3, .int x3)], [], mw_E s t) (mf_Model_address_b20 N R r4 x1 x3 t) := by
  intro x1 x3 t
  unfold mf_Model_address_b20
  exact (mw_go 5 (29, [(0, .ref 49), (1, .long x1), (3, .int x3)], [.long (255 : Int64), .ref 49, .long (x1 * (256 : Int64))], mw_E s t) (by with_unfolding_all rfl) (mw_cJ 32 [.ref 49, .long (255 : Int64)] [.long (x1 * (256 : Int64))] (by with_unfolding_all rfl) (mp_Model_needNumber N R s (255 : Int64) t) (by omega) (fun v2 t2 => (mw_go 4 (4, [(3, .int (x3 + Int32.ofInt (1))), (1, .long ((x1 * (256 : Int64)) + v2)), (0, .ref 49)], [], mw_E s t2) (by with_unfolding_all rfl) (mw_jp [(0, .ref 49), (1, .long ((x1 * (256 : Int64)) + v2)), (3, .int (x3 + Int32.ofInt (1)))] (by with_unfolding_all rfl) (by with_unfolding_all rfl) (by with_unfolding_all rfl) (h4 ((x1 * (256 : Int64)) + v2) (x3 + Int32.ofInt (1)) t2))))))
set_option maxRecDepth 100000 in
theorem mp_Model_address_l4B (N R s : Nat) (r4 : Int64 → Int32 → mw_T → mw_X Int64) (h4 : ∀ (x1 : Int64) (x3 : Int32) (t : mw_T), mw_W (mw_d3 mw_eL s) 3 kModel_address (4, [(0, .ref 49), (1, .long x1), (3, .int x3)], [], mw_E s t) (r4 x1 x3 t)) : ∀ (x1 : Int64) (x3 : Int32) (t : mw_T), mw_W (mw_d3 mw_eL s) 3 kModel_address (4, [(0, .ref 49), (1, .long x1), (3, .int x3)], [], mw_E s t) (mf_Model_address_l4B N R r4 x1 x3 t) := by
  intro x1 x3 t
  unfold mf_Model_address_l4B
  exact (mw_go 2 (6, [(0, .ref 49), (1, .long x1), (3, .int x3)], [.int (4 : Int32), .int x3], mw_E s t) (by with_unfolding_all rfl) (mw_l2 9 40 (by with_unfolding_all rfl) (mw_go 1 (10, [(0, .ref 49), (1, .long x1), (3, .int x3)], [.int x3], mw_E s t) (by with_unfolding_all rfl) (mw_g1 13 20 (by with_unfolding_all rfl) (mw_go 2 (17, [(0, .ref 49), (1, .long x1), (3, .int x3)], [.long (46 : Int64), .ref 49], mw_E s t) (by with_unfolding_all rfl) (mw_cV 20 [.ref 49, .long (46 : Int64)] [] (by with_unfolding_all rfl) (mp_Model_need N R s (46 : Int64) t) (by omega) (fun _ t1 => (mw_jp [(0, .ref 49), (1, .long x1), (3, .int x3)] (by with_unfolding_all rfl) (by with_unfolding_all rfl) (by with_unfolding_all rfl) (mp_Model_address_b20 N R s r4 h4 x1 x3 t1))))) (mw_jp [(0, .ref 49), (1, .long x1), (3, .int x3)] (by with_unfolding_all rfl) (by with_unfolding_all rfl) (by with_unfolding_all rfl) (mp_Model_address_b20 N R s r4 h4 x1 x3 t)))) (mw_go 1 (41, [(0, .ref 49), (1, .long x1), (3, .int x3)], [.long x1], mw_E s t) (by with_unfolding_all rfl) (mw_rl (by with_unfolding_all rfl) (by with_unfolding_all rfl) rfl))))
set_option maxRecDepth 100000 in
theorem mp_Model_address_l4 (N R s : Nat) : ∀ (n : Nat), ∀ (x1 : Int64) (x3 : Int32) (t : mw_T), mw_W (mw_d3 mw_eL s) 3 kModel_address (4, [(0, .ref 49), (1, .long x1), (3, .int x3)], [], mw_E s t) (mf_Model_address_l4 N R n x1 x3 t) := by
  intro n
  induction n with
  | zero => intros; exact mw_no
  | succ n ih => exact mp_Model_address_l4B N R s (mf_Model_address_l4 N R n) ih
set_option maxRecDepth 100000 in
theorem mp_Model_address (N R s : Nat) : ∀ (t : mw_T), mw_W (mw_d3 mw_eL s) 3 kModel_address (0, [(0, .ref 49)], [], mw_E s t) (mf_Model_address N R t) := by
  intro t
  unfold mf_Model_address
  exact (mw_go 4 (4, [(3, .int (0 : Int32)), (1, .long (0 : Int64)), (0, .ref 49)], [], mw_E s t) (by with_unfolding_all rfl) (mw_jp [(0, .ref 49), (1, .long (0 : Int64)), (3, .int (0 : Int32))] (by with_unfolding_all rfl) (by with_unfolding_all rfl) (by with_unfolding_all rfl) (mp_Model_address_l4 N R s N (0 : Int64) (0 : Int32) t)))
theorem mg_Model_address_b20 (N R : Nat) (r4 : Int64 → Int32 → mw_T → mw_X Int64) (g4 : ∀ (x1 : Int64) (x3 : Int32) (t : mw_T), mw_F [] 0 [(49, 3), (49, 4), (49, 6), (49, 7)] t (r4 x1 x3 t)) : ∀ (x1 : Int64) (x3 : Int32) (t : mw_T), mw_F [] 0 [(49, 3), (49, 4), (49, 6), (49, 7)] t (mf_Model_address_b20 N R r4 x1 x3 t) := by
  intro x1 x3 t
  exact (mg_b mg_rf (mg_Model_needNumber N R (255 : Int64) t) (mw_lq0 (by rfl)) (fun v2 t2 e2 => (mg_jp e2 (g4 ((x1 * (256 : Int64)) + v2) (x3 + Int32.ofInt (1)) t2))))
theorem mg_Model_address_l4B (N R : Nat) (r4 : Int64 → Int32 → mw_T → mw_X Int64) (g4 : ∀ (x1 : Int64) (x3 : Int32) (t : mw_T), mw_F [] 0 [(49, 3), (49, 4), (49, 6), (49, 7)] t (r4 x1 x3 t)) : ∀ (x1 : Int64) (x3 : Int32) (t : mw_T), mw_F [] 0 [(49, 3), (49, 4), (49, 6), (49, 7)] t (mf_Model_address_l4B N R r4 x1 x3 t) := by
  intro x1 x3 t
  exact (mg_if (mg_if (mg_b mg_rf (mg_Model_need N R (46 : Int64) t) (mw_lq0 (by rfl)) (fun _ t1 e1 => (mg_jp e1 (mg_Model_address_b20 N R r4 g4 x1 x3 t1)))) (mg_jp mg_rf (mg_Model_address_b20 N R r4 g4 x1 x3 t))) (mg_rt mg_rf))
theorem mg_Model_address_l4 (N R : Nat) : ∀ (n : Nat), ∀ (x1 : Int64) (x3 : Int32) (t : mw_T), mw_F [] 0 [(49, 3), (49, 4), (49, 6), (49, 7)] t (mf_Model_address_l4 N R n x1 x3 t) := by
  intro n
  induction n with
  | zero => intros; exact mg_no
  | succ n ih => exact mg_Model_address_l4B N R (mf_Model_address_l4 N R n) ih
theorem mg_Model_address (N R : Nat) : ∀ (t : mw_T), mw_F [] 0 [(49, 3), (49, 4), (49, 6), (49, 7)] t (mf_Model_address N R t) := by
  intro t
  exact (mg_jp mg_rf (mg_Model_address_l4 N R N (0 : Int64) (0 : Int32) t))
def mf_Model_primitive_b128 (N R : Nat) (x1 : Int32) (x4 : Int64) (x6 : Int32) (y0 : Int32) (t : mw_T) : mw_X Unit :=
  (mw_b (mf_Model_node N R y0 x1 (-1 : Int32) x6 x4 t) (fun _ t9 => (some (.inl (), t9))))
def mf_Model_primitive_b105 (N R : Nat) (x1 : Int32) (x2 : Int32) (x3 : Int32) (x4 : Int64) (y0 : Int32) (t : mw_T) : mw_X Unit :=
  (if x2 = 0 then (if x3 = 0 then (mf_Model_primitive_b128 N R x1 x4 y0 (12 : Int32) t) else (mf_Model_primitive_b128 N R x1 x4 y0 (11 : Int32) t)) else (mf_Model_primitive_b128 N R x1 x4 y0 (10 : Int32) t))
def mf_Model_primitive_b89 (N R : Nat) (x1 : Int32) (x2 : Int32) (x3 : Int32) (x4 : Int64) (t : mw_T) : mw_X Unit :=
  (if x3 = 0 then (mf_Model_primitive_b105 N R x1 x2 x3 x4 (0 : Int32) t) else (mw_b (mf_Model_needNumber N R (32 : Int64) t) (fun v8 t8 => (mf_Model_primitive_b105 N R x1 x2 x3 x4 v8.toInt32 t8))))
def mf_Model_primitive_b76 (N R : Nat) (x1 : Int32) (x2 : Int32) (x3 : Int32) (y0 : Int64) (t : mw_T) : mw_X Unit :=
  (if x3 = 0 then (mf_Model_primitive_b89 N R x1 x2 x3 y0 t) else (mw_b (mf_Model_need N R (47 : Int64) t) (fun _ t6 => (mf_Model_primitive_b89 N R x1 x2 x3 y0 t6))))
def mf_Model_primitive_b62 (N R : Nat) (x1 : Int32) (x2 : Int32) (x3 : Int32) (t : mw_T) : mw_X Unit :=
  (mw_b (mf_Model_address N R t) (fun v7 t7 => (mf_Model_primitive_b76 N R x1 x2 x3 v7 t7)))
def mf_Model_primitive_b47 (N R : Nat) (x1 : Int32) (x2 : Int32) (x3 : Int32) (y0 : Int32) (t : mw_T) : mw_X Unit :=
  (if y0 = 0 ∨ y0 = 1 then (mw_b (mf_Model_take N R (mw_wi t 49 7 y0)) (fun _ t4 => (if x2 = 0 then (if x3 = 0 then (mw_b (mf_Model_needNumber N R (65535 : Int64) t4) (fun v5 t5 => (mf_Model_primitive_b76 N R x1 x2 x3 v5 t5))) else (mf_Model_primitive_b62 N R x1 x2 x3 t4)) else (mf_Model_primitive_b62 N R x1 x2 x3 t4)))) else none)
def mf_Model_primitive_b42 (N R : Nat) (x1 : Int32) (x2 : Int32) (x3 : Int32) (t : mw_T) : mw_X Unit :=
  (mf_Model_primitive_b47 N R x1 x2 x3 (1 : Int32) t)
def mf_Model_primitive_b46 (N R : Nat) (x1 : Int32) (x2 : Int32) (x3 : Int32) (t : mw_T) : mw_X Unit :=
  (mf_Model_primitive_b47 N R x1 x2 x3 (0 : Int32) t)
def mf_Model_primitive (N R : Nat) (x1 : Int32) (t : mw_T) : mw_X Unit :=
  (mw_b (mf_Model_isWord N R (1953722216 : Int64) t) (fun v1 t1 => (mw_b (mf_Model_isWord N R (7628142 : Int64) t1) (fun v2 t2 => (if (t2.1 49 7) = 0 then (if v1 = 0 then (if v2 = 0 then (mw_b (mf_Model_isWord N R (1953656688 : Int64) t2) (fun v3 t3 => (if v3 = 0 then (mf_Model_primitive_b42 N R x1 v1 v2 t3) else (mf_Model_primitive_b46 N R x1 v1 v2 t3)))) else (mf_Model_primitive_b46 N R x1 v1 v2 t2)) else (mf_Model_primitive_b46 N R x1 v1 v2 t2)) else (mf_Model_primitive_b42 N R x1 v1 v2 t2))))))
set_option maxRecDepth 100000 in
theorem mp_Model_primitive_b128 (N R s : Nat) : ∀ (x1 : Int32) (x4 : Int64) (x6 : Int32) (y0 : Int32) (t : mw_T), mw_W (mw_d3 mw_eV s) 4 kModel_primitive (128, [(1, .int x1), (4, .long x4), (6, .int x6)], [.int y0, .ref 49], mw_E s t) (mf_Model_primitive_b128 N R x1 x4 x6 y0 t) := by
  intro x1 x4 x6 y0 t
  unfold mf_Model_primitive_b128
  exact (mw_go 4 (134, [(1, .int x1), (4, .long x4), (6, .int x6)], [.long x4, .int x6, .int (-1 : Int32), .int x1, .int y0, .ref 49], mw_E s t) (by with_unfolding_all rfl) (mw_cV 137 [.ref 49, .int y0, .int x1, .int (-1 : Int32), .int x6, .long x4] [] (by with_unfolding_all rfl) (mp_Model_node N R s y0 x1 (-1 : Int32) x6 x4 t) (by omega) (fun _ t9 => (mw_rv (by with_unfolding_all rfl) (by with_unfolding_all rfl) rfl))))
set_option maxRecDepth 100000 in
theorem mp_Model_primitive_b105 (N R s : Nat) : ∀ (x1 : Int32) (x2 : Int32) (x3 : Int32) (x4 : Int64) (y0 : Int32) (t : mw_T), mw_W (mw_d3 mw_eV s) 4 kModel_primitive (105, [(0, .ref 49), (1, .int x1), (2, .int x2), (3, .int x3), (4, .long x4)], [.int y0], mw_E s t) (mf_Model_primitive_b105 N R x1 x2 x3 x4 y0 t) := by
  intro x1 x2 x3 x4 y0 t
  unfold mf_Model_primitive_b105
  exact (mw_go 3 (109, [(6, .int y0), (0, .ref 49), (1, .int x1), (2, .int x2), (3, .int x3), (4, .long x4)], [.int x2, .ref 49], mw_E s t) (by with_unfolding_all rfl) (mw_e1 117 112 (by with_unfolding_all rfl) (mw_go 1 (118, [(6, .int y0), (0, .ref 49), (1, .int x1), (2, .int x2), (3, .int x3), (4, .long x4)], [.int x3, .ref 49], mw_E s t) (by with_unfolding_all rfl) (mw_e1 126 121 (by with_unfolding_all rfl) (mw_go 1 (128, [(6, .int y0), (0, .ref 49), (1, .int x1), (2, .int x2), (3, .int x3), (4, .long x4)], [.int (12 : Int32), .ref 49], mw_E s t) (by with_unfolding_all rfl) (mw_jp [(1, .int x1), (4, .long x4), (6, .int y0)] (by with_unfolding_all rfl) (by with_unfolding_all rfl) (by with_unfolding_all rfl) (mp_Model_primitive_b128 N R s x1 x4 y0 (12 : Int32) t))) (mw_go 2 (128, [(6, .int y0), (0, .ref 49), (1, .int x1), (2, .int x2), (3, .int x3), (4, .long x4)], [.int (11 : Int32), .ref 49], mw_E s t) (by with_unfolding_all rfl) (mw_jp [(1, .int x1), (4, .long x4), (6, .int y0)] (by with_unfolding_all rfl) (by with_unfolding_all rfl) (by with_unfolding_all rfl) (mp_Model_primitive_b128 N R s x1 x4 y0 (11 : Int32) t))))) (mw_go 2 (128, [(6, .int y0), (0, .ref 49), (1, .int x1), (2, .int x2), (3, .int x3), (4, .long x4)], [.int (10 : Int32), .ref 49], mw_E s t) (by with_unfolding_all rfl) (mw_jp [(1, .int x1), (4, .long x4), (6, .int y0)] (by with_unfolding_all rfl) (by with_unfolding_all rfl) (by with_unfolding_all rfl) (mp_Model_primitive_b128 N R s x1 x4 y0 (10 : Int32) t)))))
set_option maxRecDepth 100000 in
theorem mp_Model_primitive_b89 (N R s : Nat) : ∀ (x1 : Int32) (x2 : Int32) (x3 : Int32) (x4 : Int64) (t : mw_T), mw_W (mw_d3 mw_eV s) 4 kModel_primitive (89, [(0, .ref 49), (1, .int x1), (2, .int x2), (3, .int x3), (4, .long x4)], [], mw_E s t) (mf_Model_primitive_b89 N R x1 x2 x3 x4 t) := by
  intro x1 x2 x3 x4 t
  unfold mf_Model_primitive_b89
  exact (mw_go 1 (90, [(0, .ref 49), (1, .int x1), (2, .int x2), (3, .int x3), (4, .long x4)], [.int x3], mw_E s t) (by with_unfolding_all rfl) (mw_e1 104 93 (by with_unfolding_all rfl) (mw_go 1 (105, [(0, .ref 49), (1, .int x1), (2, .int x2), (3, .int x3), (4, .long x4)], [.int (0 : Int32)], mw_E s t) (by with_unfolding_all rfl) (mw_jp [(0, .ref 49), (1, .int x1), (2, .int x2), (3, .int x3), (4, .long x4)] (by with_unfolding_all rfl) (by with_unfolding_all rfl) (by with_unfolding_all rfl) (mp_Model_primitive_b105 N R s x1 x2 x3 x4 (0 : Int32) t))) (mw_go 2 (97, [(0, .ref 49), (1, .int x1), (2, .int x2), (3, .int x3), (4, .long x4)], [.long (32 : Int64), .ref 49], mw_E s t) (by with_unfolding_all rfl) (mw_cJ 100 [.ref 49, .long (32 : Int64)] [] (by with_unfolding_all rfl) (mp_Model_needNumber N R s (32 : Int64) t) (by omega) (fun v8 t8 => (mw_go 2 (105, [(0, .ref 49), (1, .int x1), (2, .int x2), (3, .int x3), (4, .long x4)], [.int v8.toInt32], mw_E s t8) (by with_unfolding_all rfl) (mw_jp [(0, .ref 49), (1, .int x1), (2, .int x2), (3, .int x3), (4, .long x4)] (by with_unfolding_all rfl) (by with_unfolding_all rfl) (by with_unfolding_all rfl) (mp_Model_primitive_b105 N R s x1 x2 x3 x4 v8.toInt32 t8))))))))
set_option maxRecDepth 100000 in
theorem mp_Model_primitive_b76 (N R s : Nat) : ∀ (x1 : Int32) (x2 : Int32) (x3 : Int32) (y0 : Int64) (t : mw_T), mw_W (mw_d3 mw_eV s) 4 kModel_primitive (76, [(0, .ref 49), (1, .int x1), (2, .int x2), (3, .int x3)], [.long y0], mw_E s t) (mf_Model_primitive_b76 N R x1 x2 x3 y0 t) := by
  intro x1 x2 x3 y0 t
  unfold mf_Model_primitive_b76
  exact (mw_go 2 (79, [(4, .long y0), (0, .ref 49), (1, .int x1), (2, .int x2), (3, .int x3)], [.int x3], mw_E s t) (by with_unfolding_all rfl) (mw_e1 89 82 (by with_unfolding_all rfl) (mw_jp [(0, .ref 49), (1, .int x1), (2, .int x2), (3, .int x3), (4, .long y0)] (by with_unfolding_all rfl) (by with_unfolding_all rfl) (by with_unfolding_all rfl) (mp_Model_primitive_b89 N R s x1 x2 x3 y0 t)) (mw_go 2 (86, [(4, .long y0), (0, .ref 49), (1, .int x1), (2, .int x2), (3, .int x3)], [.long (47 : Int64), .ref 49], mw_E s t) (by with_unfolding_all rfl) (mw_cV 89 [.ref 49, .long (47 : Int64)] [] (by with_unfolding_all rfl) (mp_Model_need N R s (47 : Int64) t) (by omega) (fun _ t6 => (mw_jp [(0, .ref 49), (1, .int x1), (2, .int x2), (3, .int x3), (4, .long y0)] (by with_unfolding_all rfl) (by with_unfolding_all rfl) (by with_unfolding_all rfl) (mp_Model_primitive_b89 N R s x1 x2 x3 y0 t6)))))))
set_option maxRecDepth 100000 in
theorem mp_Model_primitive_b62 (N R s : Nat) : ∀ (x1 : Int32) (x2 : Int32) (x3 : Int32) (t : mw_T), mw_W (mw_d3 mw_eV s) 4 kModel_primitive (62, [(0, .ref 49), (1, .int x1), (2, .int x2), (3, .int x3)], [], mw_E s t) (mf_Model_primitive_b62 N R x1 x2 x3 t) := by
  intro x1 x2 x3 t
  unfold mf_Model_primitive_b62
  exact (mw_go 1 (63, [(0, .ref 49), (1, .int x1), (2, .int x2), (3, .int x3)], [.ref 49], mw_E s t) (by with_unfolding_all rfl) (mw_cJ 66 [.ref 49] [] (by with_unfolding_all rfl) (mp_Model_address N R s t) (by omega) (fun v7 t7 => (mw_go 1 (76, [(0, .ref 49), (1, .int x1), (2, .int x2), (3, .int x3)], [.long v7], mw_E s t7) (by with_unfolding_all rfl) (mw_jp [(0, .ref 49), (1, .int x1), (2, .int x2), (3, .int x3)] (by with_unfolding_all rfl) (by with_unfolding_all rfl) (by with_unfolding_all rfl) (mp_Model_primitive_b76 N R s x1 x2 x3 v7 t7))))))
set_option maxRecDepth 100000 in
theorem mp_Model_primitive_b47 (N R s : Nat) : ∀ (x1 : Int32) (x2 : Int32) (x3 : Int32) (y0 : Int32) (t : mw_T), mw_W (mw_d3 mw_eV s) 4 kModel_primitive (47, [(0, .ref 49), (1, .int x1), (2, .int x2), (3, .int x3)], [.int y0, .ref 49], mw_E s t) (mf_Model_primitive_b47 N R x1 x2 x3 y0 t) := by
  intro x1 x2 x3 y0 t
  unfold mf_Model_primitive_b47
  exact (mw_pz (ci := 11) (f := 7) 50 (by with_unfolding_all rfl) (by with_unfolding_all rfl) (by with_unfolding_all rfl) (mw_go 1 (51, [(0, .ref 49), (1, .int x1), (2, .int x2), (3, .int x3)], [.ref 49], mw_E s (mw_wi t 49 7 y0)) (by with_unfolding_all rfl) (mw_cV 54 [.ref 49] [] (by with_unfolding_all rfl) (mp_Model_take N R s (mw_wi t 49 7 y0)) (by omega) (fun _ t4 => (mw_go 1 (55, [(0, .ref 49), (1, .int x1), (2, .int x2), (3, .int x3)], [.int x2], mw_E s t4) (by with_unfolding_all rfl) (mw_e1 58 62 (by with_unfolding_all rfl) (mw_go 1 (59, [(0, .ref 49), (1, .int x1), (2, .int x2), (3, .int x3)], [.int x3], mw_E s t4) (by with_unfolding_all rfl) (mw_e1 69 62 (by with_unfolding_all rfl) (mw_go 2 (73, [(0, .ref 49), (1, .int x1), (2, .int x2), (3, .int x3)], [.long (65535 : Int64), .ref 49], mw_E s t4) (by with_unfolding_all rfl) (mw_cJ 76 [.ref 49, .long (65535 : Int64)] [] (by with_unfolding_all rfl) (mp_Model_needNumber N R s (65535 : Int64) t4) (by omega) (fun v5 t5 => (mw_jp [(0, .ref 49), (1, .int x1), (2, .int x2), (3, .int x3)] (by with_unfolding_all rfl) (by with_unfolding_all rfl) (by with_unfolding_all rfl) (mp_Model_primitive_b76 N R s x1 x2 x3 v5 t5))))) (mw_jp [(0, .ref 49), (1, .int x1), (2, .int x2), (3, .int x3)] (by with_unfolding_all rfl) (by with_unfolding_all rfl) (by with_unfolding_all rfl) (mp_Model_primitive_b62 N R s x1 x2 x3 t4)))) (mw_jp [(0, .ref 49), (1, .int x1), (2, .int x2), (3, .int x3)] (by with_unfolding_all rfl) (by with_unfolding_all rfl) (by with_unfolding_all rfl) (mp_Model_primitive_b62 N R s x1 x2 x3 t4))))))))
set_option maxRecDepth 100000 in
theorem mp_Model_primitive_b42 (N R s : Nat) : ∀ (x1 : Int32) (x2 : Int32) (x3 : Int32) (t : mw_T), mw_W (mw_d3 mw_eV s) 4 kModel_primitive (42, [(0, .ref 49), (1, .int x1), (2, .int x2), (3, .int x3)], [.ref 49], mw_E s t) (mf_Model_primitive_b42 N R x1 x2 x3 t) := by
  intro x1 x2 x3 t
  unfold mf_Model_primitive_b42
  exact (mw_go 2 (47, [(0, .ref 49), (1, .int x1), (2, .int x2), (3, .int x3)], [.int (1 : Int32), .ref 49], mw_E s t) (by with_unfolding_all rfl) (mw_jp [(0, .ref 49), (1, .int x1), (2, .int x2), (3, .int x3)] (by with_unfolding_all rfl) (by with_unfolding_all rfl) (by with_unfolding_all rfl) (mp_Model_primitive_b47 N R s x1 x2 x3 (1 : Int32) t)))
set_option maxRecDepth 100000 in
theorem mp_Model_primitive_b46 (N R s : Nat) : ∀ (x1 : Int32) (x2 : Int32) (x3 : Int32) (t : mw_T), mw_W (mw_d3 mw_eV s) 4 kModel_primitive (46, [(0, .ref 49), (1, .int x1), (2, .int x2), (3, .int x3)], [.ref 49], mw_E s t) (mf_Model_primitive_b46 N R x1 x2 x3 t) := by
  intro x1 x2 x3 t
  unfold mf_Model_primitive_b46
  exact (mw_go 1 (47, [(0, .ref 49), (1, .int x1), (2, .int x2), (3, .int x3)], [.int (0 : Int32), .ref 49], mw_E s t) (by with_unfolding_all rfl) (mw_jp [(0, .ref 49), (1, .int x1), (2, .int x2), (3, .int x3)] (by with_unfolding_all rfl) (by with_unfolding_all rfl) (by with_unfolding_all rfl) (mp_Model_primitive_b47 N R s x1 x2 x3 (0 : Int32) t)))
set_option maxRecDepth 100000 in
theorem mp_Model_primitive (N R s : Nat) : ∀ (x1 : Int32) (t : mw_T), mw_W (mw_d3 mw_eV s) 4 kModel_primitive (0, [(0, .ref 49), (1, .int x1)], [], mw_E s t) (mf_Model_primitive N R x1 t) := by
  intro x1 t
  unfold mf_Model_primitive
  exact (mw_go 2 (4, [(0, .ref 49), (1, .int x1)], [.long (1953722216 : Int64), .ref 49], mw_E s t) (by with_unfolding_all rfl) (mw_cI 7 [.ref 49, .long (1953722216 : Int64)] [] (by with_unfolding_all rfl) (mp_Model_isWord N R s (1953722216 : Int64) t) (by omega) (fun v1 t1 => (mw_go 3 (12, [(2, .int v1), (0, .ref 49), (1, .int x1)], [.long (7628142 : Int64), .ref 49], mw_E s t1) (by with_unfolding_all rfl) (mw_cI 15 [.ref 49, .long (7628142 : Int64)] [] (by with_unfolding_all rfl) (mp_Model_isWord N R s (7628142 : Int64) t1) (by omega) (fun v2 t2 => (mw_go 4 (21, [(3, .int v2), (2, .int v1), (0, .ref 49), (1, .int x1)], [.int (t2.1 49 7), .ref 49], mw_E s t2) (by with_unfolding_all rfl) (mw_e1 24 42 (by with_unfolding_all rfl) (mw_go 1 (25, [(3, .int v2), (2, .int v1), (0, .ref 49), (1, .int x1)], [.int v1, .ref 49], mw_E s t2) (by with_unfolding_all rfl) (mw_e1 28 46 (by with_unfolding_all rfl) (mw_go 1 (29, [(3, .int v2), (2, .int v1), (0, .ref 49), (1, .int x1)], [.int v2, .ref 49], mw_E s t2) (by with_unfolding_all rfl) (mw_e1 32 46 (by with_unfolding_all rfl) (mw_go 2 (36, [(3, .int v2), (2, .int v1), (0, .ref 49), (1, .int x1)], [.long (1953656688 : Int64), .ref 49, .ref 49], mw_E s t2) (by with_unfolding_all rfl) (mw_cI 39 [.ref 49, .long (1953656688 : Int64)] [.ref 49] (by with_unfolding_all rfl) (mp_Model_isWord N R s (1953656688 : Int64) t2) (by omega) (fun v3 t3 => (mw_e1 42 46 (by with_unfolding_all rfl) (mw_jp [(0, .ref 49), (1, .int x1), (2, .int v1), (3, .int v2)] (by with_unfolding_all rfl) (by with_unfolding_all rfl) (by with_unfolding_all rfl) (mp_Model_primitive_b42 N R s x1 v1 v2 t3)) (mw_jp [(0, .ref 49), (1, .int x1), (2, .int v1), (3, .int v2)] (by with_unfolding_all rfl) (by with_unfolding_all rfl) (by with_unfolding_all rfl) (mp_Model_primitive_b46 N R s x1 v1 v2 t3)))))) (mw_jp [(0, .ref 49), (1, .int x1), (2, .int v1), (3, .int v2)] (by with_unfolding_all rfl) (by with_unfolding_all rfl) (by with_unfolding_all rfl) (mp_Model_primitive_b46 N R s x1 v1 v2 t2)))) (mw_jp [(0, .ref 49), (1, .int x1), (2, .int v1), (3, .int v2)] (by with_unfolding_all rfl) (by with_unfolding_all rfl) (by with_unfolding_all rfl) (mp_Model_primitive_b46 N R s x1 v1 v2 t2)))) (mw_jp [(0, .ref 49), (1, .int x1), (2, .int v1), (3, .int v2)] (by with_unfolding_all rfl) (by with_unfolding_all rfl) (by with_unfolding_all rfl) (mp_Model_primitive_b42 N R s x1 v1 v2 t2))))))))))
theorem mg_Model_primitive_b128 (N R : Nat) : ∀ (x1 : Int32) (x4 : Int64) (x6 : Int32) (y0 : Int32) (t : mw_T), mw_F [] 0 [(49, 3), (49, 4), (49, 6), (49, 7), (49, 9), (49, 10), (51, 1000), (52, 1000), (53, 1000), (54, 1000), (55, 1000), (58, 1000), (59, 1000)] t (mf_Model_primitive_b128 N R x1 x4 x6 y0 t) := by
  intro x1 x4 x6 y0 t
  exact (mg_b mg_rf (mg_Model_node N R y0 x1 (-1 : Int32) x6 x4 t) (mw_lq0 (by rfl)) (fun _ t9 e9 => (mg_rt e9)))
theorem mg_Model_primitive_b105 (N R : Nat) : ∀ (x1 : Int32) (x2 : Int32) (x3 : Int32) (x4 : Int64) (y0 : Int32) (t : mw_T), mw_F [] 0 [(49, 3), (49, 4), (49, 6), (49, 7), (49, 9), (49, 10), (51, 1000), (52, 1000), (53, 1000), (54, 1000), (55, 1000), (58, 1000), (59, 1000)] t (mf_Model_primitive_b105 N R x1 x2 x3 x4 y0 t) := by
  intro x1 x2 x3 x4 y0 t
  exact (mg_if (mg_if (mg_jp mg_rf (mg_Model_primitive_b128 N R x1 x4 y0 (12 : Int32) t)) (mg_jp mg_rf (mg_Model_primitive_b128 N R x1 x4 y0 (11 : Int32) t))) (mg_jp mg_rf (mg_Model_primitive_b128 N R x1 x4 y0 (10 : Int32) t)))
theorem mg_Model_primitive_b89 (N R : Nat) : ∀ (x1 : Int32) (x2 : Int32) (x3 : Int32) (x4 : Int64) (t : mw_T), mw_F [] 0 [(49, 3), (49, 4), (49, 6), (49, 7), (49, 9), (49, 10), (51, 1000), (52, 1000), (53, 1000), (54, 1000), (55, 1000), (58, 1000), (59, 1000)] t (mf_Model_primitive_b89 N R x1 x2 x3 x4 t) := by
  intro x1 x2 x3 x4 t
  exact (mg_if (mg_jp mg_rf (mg_Model_primitive_b105 N R x1 x2 x3 x4 (0 : Int32) t)) (mg_b mg_rf (mg_Model_needNumber N R (32 : Int64) t) (mw_lq0 (by rfl)) (fun v8 t8 e8 => (mg_jp e8 (mg_Model_primitive_b105 N R x1 x2 x3 x4 v8.toInt32 t8)))))
theorem mg_Model_primitive_b76 (N R : Nat) : ∀ (x1 : Int32) (x2 : Int32) (x3 : Int32) (y0 : Int64) (t : mw_T), mw_F [] 0 [(49, 3), (49, 4), (49, 6), (49, 7), (49, 9), (49, 10), (51, 1000), (52, 1000), (53, 1000), (54, 1000), (55, 1000), (58, 1000), (59, 1000)] t (mf_Model_primitive_b76 N R x1 x2 x3 y0 t) := by
  intro x1 x2 x3 y0 t
  exact (mg_if (mg_jp mg_rf (mg_Model_primitive_b89 N R x1 x2 x3 y0 t)) (mg_b mg_rf (mg_Model_need N R (47 : Int64) t) (mw_lq0 (by rfl)) (fun _ t6 e6 => (mg_jp e6 (mg_Model_primitive_b89 N R x1 x2 x3 y0 t6)))))
theorem mg_Model_primitive_b62 (N R : Nat) : ∀ (x1 : Int32) (x2 : Int32) (x3 : Int32) (t : mw_T), mw_F [] 0 [(49, 3), (49, 4), (49, 6), (49, 7), (49, 9), (49, 10), (51, 1000), (52, 1000), (53, 1000), (54, 1000), (55, 1000), (58, 1000), (59, 1000)] t (mf_Model_primitive_b62 N R x1 x2 x3 t) := by
  intro x1 x2 x3 t
  exact (mg_b mg_rf (mg_Model_address N R t) (mw_lq0 (by rfl)) (fun v7 t7 e7 => (mg_jp e7 (mg_Model_primitive_b76 N R x1 x2 x3 v7 t7))))
theorem mg_Model_primitive_b47 (N R : Nat) : ∀ (x1 : Int32) (x2 : Int32) (x3 : Int32) (y0 : Int32) (t : mw_T), mw_F [] 0 [(49, 3), (49, 4), (49, 6), (49, 7), (49, 9), (49, 10), (51, 1000), (52, 1000), (53, 1000), (54, 1000), (55, 1000), (58, 1000), (59, 1000)] t (mf_Model_primitive_b47 N R x1 x2 x3 y0 t) := by
  intro x1 x2 x3 y0 t
  exact (mg_gd (mg_b (mg_wiB 49 7 (by rfl) (Or.inr rfl) mg_rf) (mg_Model_take N R (mw_wi t 49 7 y0)) (mw_lq0 (by rfl)) (fun _ t4 e4 => (mg_if (mg_if (mg_b e4 (mg_Model_needNumber N R (65535 : Int64) t4) (mw_lq0 (by rfl)) (fun v5 t5 e5 => (mg_jp e5 (mg_Model_primitive_b76 N R x1 x2 x3 v5 t5)))) (mg_jp e4 (mg_Model_primitive_b62 N R x1 x2 x3 t4))) (mg_jp e4 (mg_Model_primitive_b62 N R x1 x2 x3 t4))))))
theorem mg_Model_primitive_b42 (N R : Nat) : ∀ (x1 : Int32) (x2 : Int32) (x3 : Int32) (t : mw_T), mw_F [] 0 [(49, 3), (49, 4), (49, 6), (49, 7), (49, 9), (49, 10), (51, 1000), (52, 1000), (53, 1000), (54, 1000), (55, 1000), (58, 1000), (59, 1000)] t (mf_Model_primitive_b42 N R x1 x2 x3 t) := by
  intro x1 x2 x3 t
  exact (mg_jp mg_rf (mg_Model_primitive_b47 N R x1 x2 x3 (1 : Int32) t))
theorem mg_Model_primitive_b46 (N R : Nat) : ∀ (x1 : Int32) (x2 : Int32) (x3 : Int32) (t : mw_T), mw_F [] 0 [(49, 3), (49, 4), (49, 6), (49, 7), (49, 9), (49, 10), (51, 1000), (52, 1000), (53, 1000), (54, 1000), (55, 1000), (58, 1000), (59, 1000)] t (mf_Model_primitive_b46 N R x1 x2 x3 t) := by
  intro x1 x2 x3 t
  exact (mg_jp mg_rf (mg_Model_primitive_b47 N R x1 x2 x3 (0 : Int32) t))
theorem mg_Model_primitive (N R : Nat) : ∀ (x1 : Int32) (t : mw_T), mw_F [] 0 [(49, 3), (49, 4), (49, 6), (49, 7), (49, 9), (49, 10), (51, 1000), (52, 1000), (53, 1000), (54, 1000), (55, 1000), (58, 1000), (59, 1000)] t (mf_Model_primitive N R x1 t) := by
  intro x1 t
  exact (mg_b mg_rf (mg_Model_isWord N R (1953722216 : Int64) t) (mw_lq0 (by rfl)) (fun v1 t1 e1 => (mg_b e1 (mg_Model_isWord N R (7628142 : Int64) t1) (mw_lq0 (by rfl)) (fun v2 t2 e2 => (mg_if (mg_if (mg_if (mg_b e2 (mg_Model_isWord N R (1953656688 : Int64) t2) (mw_lq0 (by rfl)) (fun v3 t3 e3 => (mg_if (mg_jp e3 (mg_Model_primitive_b42 N R x1 v1 v2 t3)) (mg_jp e3 (mg_Model_primitive_b46 N R x1 v1 v2 t3))))) (mg_jp e2 (mg_Model_primitive_b46 N R x1 v1 v2 t2))) (mg_jp e2 (mg_Model_primitive_b46 N R x1 v1 v2 t2))) (mg_jp e2 (mg_Model_primitive_b42 N R x1 v1 v2 t2)))))))
