/-! TOKENS AND PARSERS: tokens as a list (kind as the class has it, number); a parser by descent; the reference's stack machine -/
abbrev mk_L : Type := List (Nat × Nat)
def mk_hd (L : mk_L) : Nat := (L.headD (0, 0)).1
def mk_hv (L : mk_L) : Nat := (L.headD (0, 0)).2
def mk_num (hi : Nat) (L : mk_L) : Option (Nat × mk_L) := if mk_hd L = 1 ∧ mk_hv L ≤ hi then some (mk_hv L, L.tail) else none
def mk_ex (k : Nat) (L : mk_L) : Option mk_L := if mk_hd L = k then some L.tail else none
def mk_addr (L : mk_L) : Option (Nat × mk_L) :=
  (mk_num 255 L).bind fun a => (mk_ex 46 a.2).bind fun L1 => (mk_num 255 L1).bind fun b => (mk_ex 46 b.2).bind fun L2 => (mk_num 255 L2).bind fun c => (mk_ex 46 c.2).bind fun L3 => (mk_num 255 L3).bind fun d => some (((a.1 * 256 + b.1) * 256 + c.1) * 256 + d.1, d.2)
/-- protocols in the reference's numbers; 9: none -/
def mk_pr (k : Nat) : Nat := if k = 6 then 0 else if k = 3 then 1 else if k = 4 then 2 else if k = 5 then 3 else 9
def mk_prim (a : Nat) (L : mk_L) : Option (mt_T × mk_L) :=
  if mk_hd L = 10 then (mk_addr L.tail).bind fun v => some (mt_nd 10 a v.1 0 mt_0 mt_0, v.2) else
  if mk_hd L = 11 then (mk_addr L.tail).bind fun v => (mk_ex 47 v.2).bind fun L1 => (mk_num 32 L1).bind fun b => some (mt_nd 11 a v.1 b.1 mt_0 mt_0, b.2) else
  if mk_hd L = 12 then (mk_num 65535 L.tail).bind fun v => some (mt_nd 12 a v.1 0 mt_0 mt_0, v.2) else none
/-- how strongly a sign between values binds; its number -/
def mk_str (k : Nat) : Nat := if k = 42 ∨ k = 47 then 5 else if k = 43 ∨ k = 45 then 4 else if k = 15420 ∨ k = 15934 then 3 else if k = 38 then 2 else if k = 124 then 1 else 0
def mk_sg (k : Nat) : Nat := if k = 43 then 0 else if k = 45 then 1 else if k = 42 then 2 else if k = 47 then 3 else if k = 15420 then 4 else if k = 15934 then 5 else if k = 38 then 6 else 7
/-- relations' signs: 8 to 13; 0: none -/
def mk_rl (k : Nat) : Nat := if k = 61 then 8 else if k = 8509 then 9 else if k = 62 then 10 else if k = 15421 then 11 else if k = 15933 then 12 else if k = 60 then 13 else 0
/-- the bytes of an access and its end -/
def mk_size (L : mk_L) : Option (Nat × mk_L) := if mk_hd L = 58 then (mk_num 4 L.tail).bind fun b => if b.1 = 0 ∨ b.1 = 3 then none else (mk_ex 93 b.2).bind fun L1 => some (b.1, L1) else (mk_ex 93 L).bind fun L1 => some (1, L1)
def mk_item (rM : Nat → Nat → mk_L → Option (mt_T × mk_L)) (d : Nat) (L : mk_L) : Option (mt_T × mk_L) :=
  if mk_hd L = 1 then (mk_num 4294967295 L).bind fun v => some (mt_nd 1 0 v.1 0 mt_0 mt_0, v.2) else
  if mk_hd L = 7 then some (mt_nd 2 0 0 0 mt_0 mt_0, L.tail) else
  if mk_hd L = 123 then (if d = 8 then none else (rM 1 (d + 1) L.tail).bind fun X => (mk_ex 125 X.2).bind fun L1 => some (X.1, L1)) else
  if mk_pr (mk_hd L) = 9 then none else (mk_ex 91 L.tail).bind fun L1 => if d = 8 then none else (rM 1 (d + 1) L1).bind fun X => (mk_size X.2).bind fun b => some (mt_nd 3 (mk_pr (mk_hd L)) b.1 0 X.1 mt_0, b.2)
def mk_vl (rM : Nat → Nat → mk_L → Option (mt_T × mk_L)) (w d : Nat) : Nat → mt_T → mk_L → Option (mt_T × mk_L)
  | 0, _, _ => none
  | g + 1, X, L => if mk_str (mk_hd L) < w then some (X, L) else (rM (mk_str (mk_hd L) + 1) d L.tail).bind fun Y => mk_vl rM w d g (mt_nd 4 (mk_sg (mk_hd L)) 0 0 X Y.1) Y.2
def mk_val : Nat → Nat → Nat → mk_L → Option (mt_T × mk_L)
  | 0 => fun _ _ _ => none
  | f + 1 => fun w d L => (mk_item (mk_val f) d L).bind fun X => mk_vl (mk_val f) w d (X.2.length + 1) X.1 X.2
def mk_rel (f d : Nat) (L : mk_L) : Option (mt_T × mk_L) := (mk_val f 1 d L).bind fun X => if mk_rl (mk_hd X.2) = 0 then none else (mk_val f 1 d X.2.tail).bind fun Y => some (mt_nd 8 (mk_rl (mk_hd X.2)) 0 0 X.1 Y.1, Y.2)
abbrev mk_P2 : Type := (mt_T × mt_T) × mk_L
def mk_two (X : mt_T × mk_L) : mk_P2 := ((X.1, X.1), X.2)
def mk_uw (F : Nat) (rF : Nat → mk_L → Option mk_P2) (d : Nat) (L : mk_L) : Option mk_P2 :=
  if mk_hd L = 40 then (if d = 8 then none else (rF (d + 1) L.tail).bind fun X => (mk_ex 41 X.2).bind fun L1 => some (X.1, L1)) else
  if (mk_hd L = 3 ∨ mk_hd L = 4 ∨ mk_hd L = 5) ∧ mk_hd L.tail ≠ 91 then some (mk_two (mt_nd 9 (mk_pr (mk_hd L)) 0 0 mt_0 mt_0, L.tail)) else
  if mk_hd L = 8 then (mk_prim 1 L.tail).map mk_two else if mk_hd L = 9 then (mk_prim 2 L.tail).map mk_two else
  if mk_hd L = 10 ∨ mk_hd L = 11 ∨ mk_hd L = 12 then (mk_prim 3 L).map mk_two else (mk_rel F d L).map mk_two
def mk_un (F : Nat) (rF : Nat → mk_L → Option mk_P2) (d : Nat) : Bool → mk_L → Option mk_P2
  | b, [] => (mk_uw F rF d []).bind fun X => some ((if b then mt_nd 7 0 0 0 X.1.1 mt_0 else X.1.1, X.1.2), X.2)
  | b, z :: L => if z.1 = 15 then (mk_un F rF d (!b) L).bind fun X => some ((X.1.1, mt_nd 7 0 0 0 X.1.2 mt_0), X.2) else
    (mk_uw F rF d (z :: L)).bind fun X => some ((if b then mt_nd 7 0 0 0 X.1.1 mt_0 else X.1.1, X.1.2), X.2)
def mk_jn (k j : Nat) (u : mk_L → Option mk_P2) : Nat → mt_T × mt_T → mk_L → Option mk_P2
  | 0, _, _ => none
  | g + 1, X, L => if mk_hd L = k then (u L.tail).bind fun Y => mk_jn k j u g (mt_nd j 0 0 0 X.1 Y.1.1, mt_nd j 0 0 0 X.2 Y.1.2) Y.2 else some (X, L)
def mk_part (F : Nat) (rF : Nat → mk_L → Option mk_P2) (d : Nat) (L : mk_L) : Option mk_P2 := (mk_un F rF d false L).bind fun X => mk_jn 13 5 (mk_un F rF d false) (X.2.length + 1) X.1 X.2
def mk_fil (F : Nat) : Nat → Nat → mk_L → Option mk_P2
  | 0 => fun _ _ => none
  | f + 1 => fun d L => (mk_part F (mk_fil F f) d L).bind fun X => mk_jn 14 6 (mk_part F (mk_fil F f) d) (X.2.length + 1) X.1 X.2
/-- the whole text -/
def mk_all (F : Nat) (L : mk_L) : Option (mt_T × mt_T) := (mk_fil F F 0 L).bind fun X => if X.2 = [] then some X.1 else none
/-! the stack machine; a frame: strength (100 round, 101 brace, 102 square), what, left part -/
abbrev mm_F : Type := List (Nat × Nat × mt_T)
def mt_kd : mt_T → Nat
  | .tag k _ => k
  | _ => 0
def mm_iv (X : mt_T) : Bool := Nat.ble (mt_kd X) 4
theorem mt_kd_nd (k a n m : Nat) (l r : mt_T) : mt_kd (mt_nd k a n m l r) = k := by rw [mt_nd, mt_kd]
theorem mm_iv_nd (k a n m : Nat) (l r : mt_T) : mm_iv (mt_nd k a n m l r) = Nat.ble k 4 := by rw [mm_iv, mt_kd_nd]
def mm_str (k : Nat) : Nat := if k = 14 then 1 else if k = 13 then 2 else if mk_rl k ≠ 0 then 4 else if mk_str k ≠ 0 then mk_str k + 4 else 0
def mm_no (k : Nat) : Nat := if mk_rl k ≠ 0 then mk_rl k else if mk_str k ≠ 0 then mk_sg k else 0
def mm_nd (s a : Nat) (l X : mt_T) : mt_T := if s = 3 then mt_nd 7 0 0 0 X mt_0 else mt_nd (if s = 1 then 6 else if s = 2 then 5 else if s = 4 then 8 else 4) a 0 0 l X
def mm_ty (s : Nat) (l X : mt_T) : Bool := if s = 3 then !(mm_iv X) else (mm_iv l == Nat.blt 2 s) && (mm_iv X == Nat.blt 2 s)
def mm_red (q : Nat) : mm_F → mt_T → Option (mm_F × mt_T)
  | [], X => some ([], X)
  | z :: fs, X => if z.1 < 100 ∧ q ≤ z.1 then (if mm_ty z.1 z.2.2 X = true then mm_red q fs (mm_nd z.1 z.2.1 z.2.2 X) else none) else some (z :: fs, X)
abbrev mm_S : Type := mm_F × Nat × Option mt_T × mk_L
def mm_beg (fs : mm_F) (d : Nat) (L : mk_L) : Option mm_S :=
  if mk_pr (mk_hd L) ≠ 9 then (if mk_hd L.tail = 91 then (if d < 8 then some ((102, mk_pr (mk_hd L), mt_0) :: fs, d + 1, none, L.tail.tail) else none) else
    (if mk_pr (mk_hd L) = 0 then none else some (fs, d, some (mt_nd 9 (mk_pr (mk_hd L)) 0 0 mt_0 mt_0), L.tail))) else
  if mk_hd L = 15 then some ((3, 0, mt_0) :: fs, d, none, L.tail) else
  if mk_hd L = 40 then (if d < 8 then some ((100, 0, mt_0) :: fs, d + 1, none, L.tail) else none) else
  if mk_hd L = 123 then (if d < 8 then some ((101, 0, mt_0) :: fs, d + 1, none, L.tail) else none) else
  if mk_hd L = 1 then (mk_num 4294967295 L).bind fun v => some (fs, d, some (mt_nd 1 0 v.1 0 mt_0 mt_0), v.2) else
  if mk_hd L = 7 then some (fs, d, some (mt_nd 2 0 0 0 mt_0 mt_0), L.tail) else
  if mk_hd L = 8 then (mk_prim 1 L.tail).bind fun X => some (fs, d, some X.1, X.2) else
  if mk_hd L = 9 then (mk_prim 2 L.tail).bind fun X => some (fs, d, some X.1, X.2) else
  (mk_prim 3 L).bind fun X => some (fs, d, some X.1, X.2)
/-- the bracket on top goes -/
def mm_cl (s : Nat) (v : Bool) (fs : mm_F) (X : mt_T) : Option (Nat × mm_F × mt_T) :=
  (mm_red 1 fs X).bind fun Y => match Y.1 with
    | [] => none
    | z :: gs => if z.1 = s ∧ mm_iv Y.2 = v then some (z.2.1, gs, Y.2) else none
def mm_on (fs : mm_F) (d : Nat) (X : mt_T) (L : mk_L) : Option mm_S :=
  if mm_str (mk_hd L) ≠ 0 then (mm_red (mm_str (mk_hd L)) fs X).bind fun Y => some ((mm_str (mk_hd L), mm_no (mk_hd L), Y.2) :: Y.1, d, none, L.tail) else
  if mk_hd L = 58 ∨ mk_hd L = 93 then (mm_cl 102 true fs X).bind fun Y => (mk_size L).bind fun b => some (Y.2.1, d - 1, some (mt_nd 3 Y.1 b.1 0 Y.2.2 mt_0), b.2) else
  if mk_hd L = 41 then (mm_cl 100 false fs X).bind fun Y => some (Y.2.1, d - 1, some Y.2.2, L.tail) else
  if mk_hd L = 125 then (mm_cl 101 true fs X).bind fun Y => some (Y.2.1, d - 1, some Y.2.2, L.tail) else none
def mm_fin (fs : mm_F) (X : mt_T) : Option mt_T := (mm_red 1 fs X).bind fun Y => if Y.1 = [] ∧ mm_iv Y.2 = false then some Y.2 else none
def mm_run : Nat → mm_F → Nat → Option mt_T → mk_L → Option mt_T
  | 0, _, _, _, _ => none
  | n + 1, fs, d, none, L => (mm_beg fs d L).bind fun s => mm_run n s.1 s.2.1 s.2.2.1 s.2.2.2
  | n + 1, fs, d, some X, L => if L = [] then mm_fin fs X else (mm_on fs d X L).bind fun s => mm_run n s.1 s.2.1 s.2.2.1 s.2.2.2
