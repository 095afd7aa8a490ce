/-! WHAT A FILTER ASKS OF THE PACKET: protocols, whole packets, addresses, ports -/
theorem mi_u_maskid {x : Int64} (h : mi_u x) : x &&& (4294967295 : Int64) = x := by
  obtain ⟨n, h1, rfl⟩ := h
  rw [mi_maskL, Nat.mod_eq_of_lt h1]
/-- a verdict as the class has it -/
def mv (r : Option Bool) : Int32 := match r with
  | none => -1
  | some true => 1
  | some false => 0
def mj_b2 (b : Bool) : Int32 := if b = true then 1 else 0
/-- .. and as the reference has it: 0 or 1, and whether the packet is rejected -/
def mi_bj (t : mw_T) : Option Bool → mw_X Int32
  | none => some (.inl 0, mw_wi t 49 53 1)
  | some b => some (.inl (mj_b2 b), t)
theorem mi_same (N R : Nat) (t : mw_T) {r : Option Int64} (hu : ∀ v, r = some v → mi_u v) (w m : Int64) : mf_Judge_same N R (mi_re r) w m t = some (.inl (mv (r.map (fun v => decide ((v &&& m) = (w &&& m))))), t) := by
  cases r with
  | none => rfl
  | some v =>
    rw [mf_Judge_same, if_neg (show ¬ mi_re (some v) = -1 from mi_u_ne (hu v rfl))]
    by_cases c : (v &&& m) = (w &&& m)
    · rw [if_pos (show (mi_re (some v) &&& m) = (w &&& m) from c)]
      simp only [Option.map_some, decide_eq_true c]; rfl
    · rw [if_neg (show ¬ (mi_re (some v) &&& m) = (w &&& m) from c)]
      simp only [Option.map_some, decide_eq_false c]; rfl
section
variable (pk : Nat → Nat) (n : Nat)
def mq_ip : Option Bool := (mi_fld pk n 12 2).map (fun v => decide (v = nL 2048))
def mq_no (p : Nat) : Int64 := if p = 2 then nL 6 else nL 17
/-- protocols in the reference's numbers: 1 ip, 2 tcp, 3 udp -/
def mq_pr (p : Nat) : Option Bool := match mq_ip pk n with
  | some true => if p = 1 then some true else (mi_fld pk n 23 1).map (fun v => decide (v = mq_no p))
  | x => x
def mq_wh : Option Bool := (mi_fld pk n 20 2).map (fun v => decide ((v &&& (8191 : Int64)) = 0))
def mq_sd (p s : Nat) (w m : Int64) : Option Bool := (mi_fld pk n p s).map (fun v => decide ((v &&& m) = (w &&& m)))
/-- the ends that are asked for: 1 the source, 2 the target, 3 either -/
def mq_ends (e p q s : Nat) (w m : Int64) : Option Bool :=
  match (if e = 2 then some false else mq_sd pk n p s w m) with
  | some false => if e = 1 then some false else mq_sd pk n q s w m
  | x => x
def mq_addr (e : Nat) (w m : Int64) : Option Bool := match mq_ip pk n with
  | some true => mq_ends pk n e 26 30 4 w m
  | x => x
/-- HEAD of a packet whose byte 14 is there -/
def mq_hd : Nat := 4 * (pk 14 % 16)
def mq_port (e : Nat) (w : Int64) : Option Bool :=
  match (match mq_pr pk n 2 with | some false => mq_pr pk n 3 | x => x) with
  | some true => (match mq_wh pk n with
    | some true => mq_ends pk n e (14 + mq_hd pk) (16 + mq_hd pk) 2 w (4294967295 : Int64)
    | x => x)
  | x => x
end
section
variable {N R : Nat} {pk : Nat → Nat} {n : Nat} {t : mw_T}
theorem mq_maskid {p s : Nat} (h : mi_PktW pk n t) (hs : s ≤ 4) {w : Int64} (hw : mi_u w) : (mi_fld pk n p s).map (fun v => decide ((v &&& (4294967295 : Int64)) = (w &&& (4294967295 : Int64)))) = (mi_fld pk n p s).map (fun v => decide (v = w)) := by
  cases e : mi_fld pk n p s with
  | none => rfl
  | some v => simp only [Option.map_some, mi_u_maskid (mi_fld_u h hs e), mi_u_maskid hw]
/-- the reference's number of a protocol as the class has it -/
def mq_cp (p : Nat) : Nat := if p = 3 then 4 else p
theorem mq_protocol (hN : 6 ≤ N) (h : mi_PktW pk n t) (o p : Nat) (hp : p = 1 ∨ p = 2 ∨ p = 3) : mf_Judge_protocol N R o (nI (mq_cp p)) t = some (.inl (mv (mq_pr pk n p)), t) := by
  have e1 : mf_Packet_field N R (12 : Int64) (2 : Int32) t = some (.inl (mi_re (mi_fld pk n 12 2)), t) := mi_cfield N R hN h 12 2 (by omega) (by omega)
  have e2 : mf_Packet_field N R (23 : Int64) (1 : Int32) t = some (.inl (mi_re (mi_fld pk n 23 1)), t) := mi_cfield N R hN h 23 1 (by omega) (by omega)
  have u1 : ∀ v, mi_fld pk n 12 2 = some v → mi_u v := fun v e => mi_fld_u h (by omega) e
  have u2 : ∀ v, mi_fld pk n 23 1 = some v → mi_u v := fun v e => mi_fld_u h (by omega) e
  rw [mf_Judge_protocol, e1, mi_b, mi_same N R t u1, mi_bs, show (2048 : Int64) = nL 2048 from rfl, mq_maskid h (by omega) (mi_u_nL (by omega)), mq_pr]
  rw [show (mi_fld pk n 12 2).map (fun v => decide (v = nL 2048)) = mq_ip pk n from rfl]
  cases hi : mq_ip pk n with
  | none => rfl
  | some b =>
    cases b with
    | false => rfl
    | true =>
      rw [if_pos (show mv (some true) = 1 from rfl)]
      simp only
      rcases hp with rfl | rfl | rfl
      · rfl
      · rw [if_neg (by decide), e2, mi_b, if_neg (by decide)]
        show mw_bs (some (.inl (6 : Int32), t)) _ = _
        rw [mi_bs, mi_same N R t u2, mi_bs, show (6 : Int32).toInt64 = nL 6 from rfl, mq_maskid h (by omega) (mi_u_nL (by omega))]
        rfl
      · rw [if_neg (by decide), e2, mi_b, if_neg (by decide)]
        show mw_bs (some (.inl (17 : Int32), t)) _ = _
        rw [mi_bs, mi_same N R t u2, mi_bs, show (17 : Int32).toInt64 = nL 17 from rfl, mq_maskid h (by omega) (mi_u_nL (by omega))]
        rfl
theorem mq_whole (hN : 6 ≤ N) (h : mi_PktW pk n t) (o : Nat) : mf_Judge_whole N R o t = some (.inl (mv (mq_wh pk n)), t) := by
  have e1 : mf_Packet_field N R (20 : Int64) (2 : Int32) t = some (.inl (mi_re (mi_fld pk n 20 2)), t) := mi_cfield N R hN h 20 2 (by omega) (by omega)
  rw [mf_Judge_whole, e1, mi_b, mi_same N R t (fun v e => mi_fld_u h (by omega) e), mi_bs]
  rfl
theorem mq_isIp (hN : 6 ≤ N) (h : mi_PktW pk n t) : mf_Model_isIp N R t = mi_bj t (mq_ip pk n) := by
  have e1 : mf_Model_field N R (12 : Int64) (2 : Int32) t = mi_rj t (mi_fld pk n 12 2) := mi_mfield N R hN h 12 2 (by omega) (by omega)
  rw [mf_Model_isIp, e1, mq_ip]
  cases mi_fld pk n 12 2 with
  | none => rfl
  | some v =>
    rw [mi_rj, mi_b]
    by_cases c : v = nL 2048
    · rw [if_pos (show v = (2048 : Int64) from c)]; simp only [Option.map_some, decide_eq_true c]; rfl
    · rw [if_neg (show ¬ v = (2048 : Int64) from c)]; simp only [Option.map_some, decide_eq_false c]; rfl
theorem mq_is (hN : 6 ≤ N) (h : mi_PktW pk n t) (h0 : t.1 49 53 = 0) (p : Nat) (hp : p = 2 ∨ p = 3) : mf_Model_is N R (nI p) t = mi_bj t (mq_pr pk n p) := by
  have e1 : mf_Model_field N R (23 : Int64) (1 : Int32) t = mi_rj t (mi_fld pk n 23 1) := mi_mfield N R hN h 23 1 (by omega) (by omega)
  rw [mf_Model_is, mq_isIp hN h, mq_pr]
  cases hi : mq_ip pk n with
  | none => rfl
  | some b =>
    cases b with
    | false => rfl
    | true =>
      rw [mi_bj, mi_b, if_neg (show ¬ mj_b2 true = 0 by decide), if_pos h0, e1]
      simp only
      rw [if_neg (show ¬ p = 1 by omega)]
      cases mi_fld pk n 23 1 with
      | none =>
        rw [mi_rj, mi_b]
        rcases hp with rfl | rfl <;> rfl
      | some v =>
        rw [mi_rj, mi_b]
        rcases hp with rfl | rfl
        · rw [if_pos (show nI 2 = (2 : Int32) from rfl), mf_Model_is_b36]
          by_cases c : v = nL 6
          · rw [if_pos (show v = (6 : Int64) from c)]; simp only [Option.map_some, mq_no, if_true, decide_eq_true c]; rfl
          · rw [if_neg (show ¬ v = (6 : Int64) from c)]; simp only [Option.map_some, mq_no, if_true, decide_eq_false c]; rfl
        · rw [if_neg (show ¬ nI 3 = (2 : Int32) by decide), mf_Model_is_b36]
          by_cases c : v = nL 17
          · rw [if_pos (show v = (17 : Int64) from c)]; simp (decide := true) only [Option.map_some, mq_no, if_false, decide_eq_true c]; rfl
          · rw [if_neg (show ¬ v = (17 : Int64) from c)]; simp (decide := true) only [Option.map_some, mq_no, if_false, decide_eq_false c]; rfl
/-- isWhole answers true when it rejects -/
theorem mq_isWhole (hN : 6 ≤ N) (h : mi_PktW pk n t) (h0 : t.1 49 53 = 0) : mf_Model_isWhole N R t = match mq_wh pk n with | none => some (.inl 1, mw_wi t 49 53 1) | some b => some (.inl (mj_b2 b), t) := by
  have e1 : mf_Model_field N R (20 : Int64) (2 : Int32) t = mi_rj t (mi_fld pk n 20 2) := mi_mfield N R hN h 20 2 (by omega) (by omega)
  rw [mf_Model_isWhole, if_pos h0, e1, mq_wh]
  cases mi_fld pk n 20 2 with
  | none => rfl
  | some v =>
    rw [mi_rj, mi_b]
    by_cases c : (v &&& (8191 : Int64)) = 0
    · rw [if_pos c]; simp only [Option.map_some, decide_eq_true c]; rfl
    · rw [if_neg c]; simp only [Option.map_some, decide_eq_false c]; rfl
end
