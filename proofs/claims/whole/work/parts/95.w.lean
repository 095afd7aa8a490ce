/-! FROM BYTECODE TO FUNCTIONS: the rules by which wip/whole/dec.py's functions are held against the mini machine -/
/-- what changes in the steady state: ints, longs, exceptions made -/
abbrev mw_T : Type := (Nat → Nat → Int32) × (Nat → Nat → Int64) × Nat
abbrev mw_X (α : Type) : Type := Option ((α ⊕ Nat) × mw_T)
abbrev mw_Y (α : Type) : Type := Option ((α ⊕ Nat) × Nat × mw_T)
def mw_f0 (s k : Nat) : Option Nat := match k with
  | 1 => some 1
  | 2 => some 3
  | 3 => some 5
  | 4 => some (7 + s)
  | 5 => some (28 - s)
  | _ => none
def mw_FF (s r k : Nat) : Option Nat := bif Nat.beq r 0 then mw_f0 s k else mj_RR r k
def mw_n0 : Nat := 12513
def mw_E (s : Nat) (t : mw_T) : mj_M := (t.1, t.2.1, mw_FF s, 86, 86 + t.2.2, mw_n0 + 6 * t.2.2)
def mw_wi (t : mw_T) (r i : Nat) (v : Int32) : mw_T := (mj_up t.1 r i v, t.2.1, t.2.2)
def mw_wl (t : mw_T) (r i : Nat) (v : Int64) : mw_T := (t.1, mj_up t.2.1 r i v, t.2.2)
def mw_we (t : mw_T) : mw_T := (t.1, t.2.1, t.2.2 + 1)
def mw_eI (v : Int32) : Option Value := some (.int v)
def mw_eL (v : Int64) : Option Value := some (.long v)
def mw_eV (_ : Unit) : Option Value := none
def mw_o {α : Type} (em : α → Option Value) : α ⊕ Nat → mj_R
  | .inl v => .inl (em v)
  | .inr q => .inr q
def mw_d3 {α : Type} (em : α → Option Value) (s : Nat) (z : (α ⊕ Nat) × mw_T) : mj_R × mj_M := (mw_o em z.1, mw_E s z.2)
def mw_d4 {α : Type} (em : α → Option Value) (z : (α ⊕ Nat) × Nat × mw_T) : mj_R × mj_M := (mw_o em z.1, mw_E z.2.1 z.2.2)
def mw_W {ρ : Type} (den : ρ → mj_R × mj_M) (need k : Nat) (c : mj_C) (r : Option ρ) : Prop := ∀ d, need ≤ d → ∀ z, r = some z → mj_Rn d k c (den z).1 (den z).2
def mw_b {α β : Type} (r : mw_X β) (g : β → mw_T → mw_X α) : mw_X α := match r with
  | some (.inl v, t) => g v t
  | some (.inr q, t) => some (.inr q, t)
  | none => none
def mw_bs {α β : Type} (r : mw_X β) (g : β → mw_T → mw_X α) : mw_X α := match r with
  | some (.inl v, t) => g v t
  | _ => none
def mw_t {α β : Type} (r : mw_X β) (g : β → mw_T → mw_X α) (h : Nat → mw_T → mw_X α) : mw_X α := match r with
  | some (.inl v, t) => g v t
  | some (.inr q, t) => h q t
  | none => none
def mw_b4 {α β : Type} (s : Nat) (r : mw_X β) (g : β → mw_T → mw_Y α) : mw_Y α := match r with
  | some (.inl v, t) => g v t
  | some (.inr q, t) => some (.inr q, s, t)
  | none => none
def mw_b4s {α β : Type} (_s : Nat) (r : mw_X β) (g : β → mw_T → mw_Y α) : mw_Y α := match r with
  | some (.inl v, t) => g v t
  | _ => none
def mw_t4 {α β : Type} (r : mw_Y β) (g : β → Nat → mw_T → mw_Y α) (h : Nat → Nat → mw_T → mw_Y α) : mw_Y α := match r with
  | some (.inl v, s, t) => g v s t
  | some (.inr q, s, t) => h q s t
  | none => none
def mw_b44 {α β : Type} (r : mw_Y β) (g : β → Nat → mw_T → mw_Y α) : mw_Y α := match r with
  | some (.inl v, s, t) => g v s t
  | _ => none
section
variable {ρ : Type} {den : ρ → mj_R × mj_M} {need k : Nat} {c : mj_C} {r A B : Option ρ} {pc : Nat} {lv : mj_L} {st : List Value} {M : mj_M} {s : Nat} {t : mw_T}
theorem mw_go (m : Nat) (y : mj_C) (h : mj_steps m k c = some y) (hn : mw_W den need k y r) : mw_W den need k c r := fun d hd z hz => mj_go m h (hn d hd z hz)
theorem mw_no : mw_W den need k c none := fun _ _ _ h => by cases h
theorem mw_gd {P : Prop} [Decidable P] (hA : P → mw_W den need k c r) : mw_W den need k c (if P then r else none) := by
  intro d hd z hz
  by_cases h : P
  · rw [if_pos h] at hz; exact hA h d hd z hz
  · rw [if_neg h] at hz; cases hz
theorem mw_cc {P : Prop} [Decidable P] (hA : P → mw_W den need k c A) (hB : ¬ P → mw_W den need k c B) : mw_W den need k c (if P then A else B) := by
  by_cases h : P
  · rw [if_pos h]; exact hA h
  · rw [if_neg h]; exact hB h
theorem mw_st1 {y : mj_C} (h : mj_one k c = some y) (hn : mw_W den need k y r) : mw_W den need k c r := mw_go 1 y (by unfold mj_steps; rw [h]; rfl) hn
theorem mw_ce {P : Prop} [Decidable P] {cA cB : mj_C} (h : mj_one k c = if P then some cA else some cB) (hA : mw_W den need k cA A) (hB : mw_W den need k cB B) : mw_W den need k c (if P then A else B) :=
  mw_cc (fun p => mw_st1 (by rw [h, if_pos p]) hA) (fun p => mw_st1 (by rw [h, if_neg p]) hB)
theorem mw_e2 {x y : Int32} (a b : Nat) (h : mj_one k (pc, lv, .int y :: .int x :: st, M) = if x = y then some (a, lv, st, M) else some (b, lv, st, M)) (hA : mw_W den need k (a, lv, st, M) A) (hB : mw_W den need k (b, lv, st, M) B) : mw_W den need k (pc, lv, .int y :: .int x :: st, M) (if x = y then A else B) := mw_ce h hA hB
theorem mw_l2 {x y : Int32} (a b : Nat) (h : mj_one k (pc, lv, .int y :: .int x :: st, M) = if x < y then some (a, lv, st, M) else some (b, lv, st, M)) (hA : mw_W den need k (a, lv, st, M) A) (hB : mw_W den need k (b, lv, st, M) B) : mw_W den need k (pc, lv, .int y :: .int x :: st, M) (if x < y then A else B) := mw_ce h hA hB
theorem mw_g2 {x y : Int32} (a b : Nat) (h : mj_one k (pc, lv, .int y :: .int x :: st, M) = if y < x then some (a, lv, st, M) else some (b, lv, st, M)) (hA : mw_W den need k (a, lv, st, M) A) (hB : mw_W den need k (b, lv, st, M) B) : mw_W den need k (pc, lv, .int y :: .int x :: st, M) (if y < x then A else B) := mw_ce h hA hB
theorem mw_e1 {x : Int32} (a b : Nat) (h : mj_one k (pc, lv, .int x :: st, M) = if x = 0 then some (a, lv, st, M) else some (b, lv, st, M)) (hA : mw_W den need k (a, lv, st, M) A) (hB : mw_W den need k (b, lv, st, M) B) : mw_W den need k (pc, lv, .int x :: st, M) (if x = 0 then A else B) := mw_ce h hA hB
theorem mw_l1 {x : Int32} (a b : Nat) (h : mj_one k (pc, lv, .int x :: st, M) = if x < 0 then some (a, lv, st, M) else some (b, lv, st, M)) (hA : mw_W den need k (a, lv, st, M) A) (hB : mw_W den need k (b, lv, st, M) B) : mw_W den need k (pc, lv, .int x :: st, M) (if x < 0 then A else B) := mw_ce h hA hB
theorem mw_g1 {x : Int32} (a b : Nat) (h : mj_one k (pc, lv, .int x :: st, M) = if 0 < x then some (a, lv, st, M) else some (b, lv, st, M)) (hA : mw_W den need k (a, lv, st, M) A) (hB : mw_W den need k (b, lv, st, M) B) : mw_W den need k (pc, lv, .int x :: st, M) (if 0 < x then A else B) := mw_ce h hA hB
theorem mw_cmp0 (x y : Int64) : (lg_cmp x y = 0) ↔ x = y := by
  unfold lg_cmp
  simp only [gt_iff_lt, Int64.lt_iff_toInt_lt, ← Int64.toInt_inj]
  repeat' split
  all_goals (constructor <;> intro hh <;> first | omega | decide | exact absurd hh (by decide))
theorem mw_cf {P Q : Prop} [Decidable P] [Decidable Q] {cA cB : mj_C} {c' : mj_C} (hPQ : P ↔ Q) (h1 : mj_one k c = some c') (h : mj_one k c' = if P then some cA else some cB) (hA : mw_W den need k cA A) (hB : mw_W den need k cB B) : mw_W den need k c (if Q then A else B) :=
  mw_cc (fun p => mw_st1 h1 (mw_st1 (by rw [h, if_pos (hPQ.mpr p)]) hA)) (fun p => mw_st1 h1 (mw_st1 (by rw [h, if_neg (fun q => p (hPQ.mp q))]) hB))
theorem mw_eL' {x y : Int64} (n a b : Nat) (h1 : mj_one k (pc, lv, .long y :: .long x :: st, M) = some (n, lv, .int (lg_cmp x y) :: st, M)) (h : mj_one k (n, lv, .int (lg_cmp x y) :: st, M) = if lg_cmp x y = 0 then some (a, lv, st, M) else some (b, lv, st, M)) (hA : mw_W den need k (a, lv, st, M) A) (hB : mw_W den need k (b, lv, st, M) B) : mw_W den need k (pc, lv, .long y :: .long x :: st, M) (if x = y then A else B) := mw_cf (mw_cmp0 x y) h1 h hA hB
theorem mw_lL {x y : Int64} (n a b : Nat) (h1 : mj_one k (pc, lv, .long y :: .long x :: st, M) = some (n, lv, .int (lg_cmp x y) :: st, M)) (h : mj_one k (n, lv, .int (lg_cmp x y) :: st, M) = if lg_cmp x y < 0 then some (a, lv, st, M) else some (b, lv, st, M)) (hA : mw_W den need k (a, lv, st, M) A) (hB : mw_W den need k (b, lv, st, M) B) : mw_W den need k (pc, lv, .long y :: .long x :: st, M) (if x < y then A else B) := mw_cf (lg_cmp_lt x y) h1 h hA hB
theorem mw_gL {x y : Int64} (n a b : Nat) (h1 : mj_one k (pc, lv, .long y :: .long x :: st, M) = some (n, lv, .int (lg_cmp x y) :: st, M)) (h : mj_one k (n, lv, .int (lg_cmp x y) :: st, M) = if 0 < lg_cmp x y then some (a, lv, st, M) else some (b, lv, st, M)) (hA : mw_W den need k (a, lv, st, M) A) (hB : mw_W den need k (b, lv, st, M) B) : mw_W den need k (pc, lv, .long y :: .long x :: st, M) (if y < x then A else B) := mw_cf (lg_cmp_gt x y) h1 h hA hB
theorem mw_sw {x v : Int32} {dd p : Nat} {tl : List (Int32 × Nat)} (hA : mw_W den need k (p, lv, st, M) A) (hB : mw_W den need k (mj_sw x dd tl, lv, st, M) B) : mw_W den need k (mj_sw x dd ((v, p) :: tl), lv, st, M) (if x = v then A else B) := by
  unfold mj_sw
  exact mw_cc (fun h => by rw [if_pos h]; exact hA) (fun h => by rw [if_neg h]; exact hB)
theorem mw_one_of {e : mj_E} (ha : mj_at k c.1 = some e) (hs : mj_spec e.1 = false) : mj_one k c = mj_step e c := by
  unfold mj_one; rw [ha]; simp only [hs, cond_false]
theorem mw_ald {t r n : Nat} {i : Int32} (hr : Nat.blt r M.nr = true) (hs : mj_sh r = (1, t, n)) (hi : mj_in i n = true) : mj_ald M t r i = some (bif Nat.beq t 1 then .long (M.L r i.toNatClampNeg) else .int (M.I r i.toNatClampNeg)) := by
  unfold mj_ald
  rw [hr]
  simp only [cond_true]
  rw [if_pos (by rw [hs]; exact ⟨rfl, hi⟩)]
theorem mw_ia {i : Int32} {r' n : Nat} (nx : Nat) (ha : mj_at k pc = some (.iaload, nx - pc, 0, 0, .null, [])) (hx : pc + (nx - pc) = nx) (hs : (Nat.blt r' 86, mj_sh r') = (true, 1, 0, n)) (hn : mw_W den need k (nx, lv, .int (t.1 r' i.toNatClampNeg) :: st, mw_E s t) r) : mw_W den need k (pc, lv, .int i :: .ref r' :: st, mw_E s t) (if mj_in i n = true then r else none) :=
  mw_gd fun h => mw_st1 (by
    rw [mw_one_of ha rfl]
    have e := mw_ald (M := mw_E s t) (t := 0) (r := r') (congrArg Prod.fst hs) (congrArg Prod.snd hs) h
    simp only [mj_step, e, hx]; rfl) hn
theorem mw_ba {i : Int32} {r' n : Nat} (nx : Nat) (ha : mj_at k pc = some (.baload, nx - pc, 0, 0, .null, [])) (hx : pc + (nx - pc) = nx) (hs : (Nat.blt r' 86, mj_sh r') = (true, 1, 2, n)) (hn : mw_W den need k (nx, lv, .int (t.1 r' i.toNatClampNeg) :: st, mw_E s t) r) : mw_W den need k (pc, lv, .int i :: .ref r' :: st, mw_E s t) (if mj_in i n = true then r else none) :=
  mw_gd fun h => mw_st1 (by
    rw [mw_one_of ha rfl]
    have e := mw_ald (M := mw_E s t) (t := 2) (r := r') (congrArg Prod.fst hs) (congrArg Prod.snd hs) h
    simp only [mj_step, e, hx]; rfl) hn
theorem mw_ca {i : Int32} {r' n : Nat} (nx : Nat) (ha : mj_at k pc = some (.caload, nx - pc, 0, 0, .null, [])) (hx : pc + (nx - pc) = nx) (hs : (Nat.blt r' 86, mj_sh r') = (true, 1, 3, n)) (hn : mw_W den need k (nx, lv, .int (t.1 r' i.toNatClampNeg) :: st, mw_E s t) r) : mw_W den need k (pc, lv, .int i :: .ref r' :: st, mw_E s t) (if mj_in i n = true then r else none) :=
  mw_gd fun h => mw_st1 (by
    rw [mw_one_of ha rfl]
    have e := mw_ald (M := mw_E s t) (t := 3) (r := r') (congrArg Prod.fst hs) (congrArg Prod.snd hs) h
    simp only [mj_step, e, hx]; rfl) hn
theorem mw_la {i : Int32} {r' n : Nat} (nx : Nat) (ha : mj_at k pc = some (.laload, nx - pc, 0, 0, .null, [])) (hx : pc + (nx - pc) = nx) (hs : (Nat.blt r' 86, mj_sh r') = (true, 1, 1, n)) (hn : mw_W den need k (nx, lv, .long (t.2.1 r' i.toNatClampNeg) :: st, mw_E s t) r) : mw_W den need k (pc, lv, .int i :: .ref r' :: st, mw_E s t) (if mj_in i n = true then r else none) :=
  mw_gd fun h => mw_st1 (by
    rw [mw_one_of ha rfl]
    have e := mw_ald (M := mw_E s t) (t := 1) (r := r') (congrArg Prod.fst hs) (congrArg Prod.snd hs) h
    simp only [mj_step, e, hx]; rfl) hn
theorem mw_sa {i : Int32} (nx : Nat) (ha : mj_at k pc = some (.iaload, nx - pc, 0, 0, .null, [])) (hx : pc + (nx - pc) = nx) (hs : (3000 : Nat) = 3000) (hn : mw_W den need k (nx, lv, .int (t.1 3000 i.toNatClampNeg) :: st, mw_E s t) r) : mw_W den need k (pc, lv, .int i :: .ref 3000 :: st, mw_E s t) (if mj_in i ((t.1 3001 0)).toNatClampNeg = true then r else none) :=
  mw_gd fun h => mw_st1 (by
    rw [mw_one_of ha rfl]
    have e : mj_ald (mw_E s t) 0 3000 i = some (.int (t.1 3000 i.toNatClampNeg)) := by
      unfold mj_ald
      rw [show Nat.blt 3000 (mw_E s t).nr = false from rfl]
      simp only [cond_false]
      rw [if_pos ⟨trivial, trivial, h⟩]; rfl
    simp only [mj_step, e, hx]) hn
theorem mw_asti {t' r n : Nat} {i x : Int32} (hr : Nat.blt r M.nr = true) (hs : mj_sh r = (1, t', n)) (hi : mj_in i n = true) : mj_asti M t' r i x = some (mj_up M.I r i.toNatClampNeg x, M.L, M.F, M.nr, M.nc, M.ns) := by
  unfold mj_asti
  rw [hr]
  simp only [cond_true]
  rw [if_pos (by rw [hs]; exact ⟨rfl, hi⟩)]
theorem mw_astl {r n : Nat} {i : Int32} {x : Int64} (hr : Nat.blt r M.nr = true) (hs : mj_sh r = (1, 1, n)) (hi : mj_in i n = true) : mj_astl M r i x = some (M.I, mj_up M.L r i.toNatClampNeg x, M.F, M.nr, M.nc, M.ns) := by
  unfold mj_astl
  rw [hr]
  simp only [cond_true]
  rw [if_pos (by rw [hs]; exact ⟨rfl, hi⟩)]
theorem mw_is {i v : Int32} {r' n : Nat} (nx : Nat) (ha : mj_at k pc = some (.iastore, nx - pc, 0, 0, .null, [])) (hx : pc + (nx - pc) = nx) (hs : (Nat.blt r' 86, mj_sh r') = (true, 1, 0, n)) (hn : mw_W den need k (nx, lv, st, mw_E s (mw_wi t r' i.toNatClampNeg v)) r) : mw_W den need k (pc, lv, .int v :: .int i :: .ref r' :: st, mw_E s t) (if mj_in i n = true then r else none) :=
  mw_gd fun h => mw_st1 (by
    rw [mw_one_of ha rfl]
    have e := mw_asti (M := mw_E s t) (t' := 0) (r := r') (x := v) (congrArg Prod.fst hs) (congrArg Prod.snd hs) h
    simp only [mj_step, e, hx]; rfl) hn
theorem mw_bs' {i v : Int32} {r' n : Nat} (nx : Nat) (ha : mj_at k pc = some (.bastore, nx - pc, 0, 0, .null, [])) (hx : pc + (nx - pc) = nx) (hs : (Nat.blt r' 86, mj_sh r') = (true, 1, 2, n)) (hn : mw_W den need k (nx, lv, st, mw_E s (mw_wi t r' i.toNatClampNeg (vp_nar .byte v))) r) : mw_W den need k (pc, lv, .int v :: .int i :: .ref r' :: st, mw_E s t) (if mj_in i n = true then r else none) :=
  mw_gd fun h => mw_st1 (by
    rw [mw_one_of ha rfl]
    have e := mw_asti (M := mw_E s t) (t' := 2) (r := r') (x := vp_nar .byte v) (congrArg Prod.fst hs) (congrArg Prod.snd hs) h
    simp only [mj_step, e, hx]; rfl) hn
theorem mw_cs' {i v : Int32} {r' n : Nat} (nx : Nat) (ha : mj_at k pc = some (.castore, nx - pc, 0, 0, .null, [])) (hx : pc + (nx - pc) = nx) (hs : (Nat.blt r' 86, mj_sh r') = (true, 1, 3, n)) (hn : mw_W den need k (nx, lv, st, mw_E s (mw_wi t r' i.toNatClampNeg (vp_nar .char v))) r) : mw_W den need k (pc, lv, .int v :: .int i :: .ref r' :: st, mw_E s t) (if mj_in i n = true then r else none) :=
  mw_gd fun h => mw_st1 (by
    rw [mw_one_of ha rfl]
    have e := mw_asti (M := mw_E s t) (t' := 3) (r := r') (x := vp_nar .char v) (congrArg Prod.fst hs) (congrArg Prod.snd hs) h
    simp only [mj_step, e, hx]; rfl) hn
theorem mw_ls {i : Int32} {v : Int64} {r' n : Nat} (nx : Nat) (ha : mj_at k pc = some (.lastore, nx - pc, 0, 0, .null, [])) (hx : pc + (nx - pc) = nx) (hs : (Nat.blt r' 86, mj_sh r') = (true, 1, 1, n)) (hn : mw_W den need k (nx, lv, st, mw_E s (mw_wl t r' i.toNatClampNeg v)) r) : mw_W den need k (pc, lv, .long v :: .int i :: .ref r' :: st, mw_E s t) (if mj_in i n = true then r else none) :=
  mw_gd fun h => mw_st1 (by
    rw [mw_one_of ha rfl]
    have e := mw_astl (M := mw_E s t) (r := r') (x := v) (congrArg Prod.fst hs) (congrArg Prod.snd hs) h
    simp only [mj_step, e, hx]; rfl) hn
def mw_pf (k pc : Nat) : Option (Nat × Nat × Nat) := match mj_at k pc with
  | some (.putfield _, n, a, b, _) => some (n, a, b)
  | _ => none
theorem mw_pz {x : Int32} {r' ci f : Nat} (nx : Nat) (ha : mw_pf k pc = some (nx - pc, ci, f)) (hx : pc + (nx - pc) = nx) (hs : ((Nat.blt r' 86 && (Nat.beq (mj_sh r').1 0 && Nat.beq (mj_sh r').2.1 ci)), mj_ft ci f) = (true, .boolean)) (hn : mw_W den need k (nx, lv, st, mw_E s (mw_wi t r' f x)) r) : mw_W den need k (pc, lv, .int x :: .ref r' :: st, mw_E s t) (if x = 0 ∨ x = 1 then r else none) :=
  mw_gd fun h => mw_st1 (by
    unfold mw_pf at ha
    split at ha
    · rename_i j n a b e he
      cases ha
      rw [mw_one_of he rfl]
      have e1 : (Nat.blt r' (mw_E s t).nr && (Nat.beq (mj_sh r').1 0 && Nat.beq (mj_sh r').2.1 ci)) = true := congrArg Prod.fst hs
      have e2 : mj_ft ci f = .boolean := congrArg Prod.snd hs
      simp only [mj_step, e1, cond_true, e2, mj_wr, if_pos h, hx]; rfl
    · cases ha) hn
theorem mw_dv {x y : Int64} (nx : Nat) (h1 : mj_one k (pc, lv, .long y :: .long x :: st, M) = if y = 0 then none else some (nx, lv, .long (x / y) :: st, M)) (hn : mw_W den need k (nx, lv, .long (x / y) :: st, M) r) : mw_W den need k (pc, lv, .long y :: .long x :: st, M) (if y = 0 then none else r) :=
  mw_cc (fun _ => mw_no) (fun p => mw_st1 (by rw [h1, if_neg p]) hn)
theorem mw_rb {v : Int32} (hr : mj_rty k = some (some .boolean)) (h : v = 0 ∨ v = 1) : mj_ret k (some (.int v)) = true := by
  unfold mj_ret; rw [hr]; simp only; exact decide_eq_true h
theorem mw_ri {v : Int32} {z : ρ} (ha : mj_at k pc = some (.ireturn, 1, 0, 0, .null, [])) (hv : mj_ret k (some (.int v)) = true) (hd : den z = (.inl (some (.int v)), M)) : mw_W den need k (pc, lv, [.int v], M) (some z) := by
  intro d _ z' hz
  cases hz
  refine ⟨1, ?_⟩
  rw [hd, mj_run, ha]
  simp only [hv, cond_true]
theorem mw_rl {v : Int64} {z : ρ} (ha : mj_at k pc = some (.lreturn, 1, 0, 0, .null, [])) (hv : mj_ret k (some (.long v)) = true) (hd : den z = (.inl (some (.long v)), M)) : mw_W den need k (pc, lv, [.long v], M) (some z) := by
  intro d _ z' hz
  cases hz
  refine ⟨1, ?_⟩
  rw [hd, mj_run, ha]
  simp only [hv, cond_true]
theorem mw_rv {z : ρ} (ha : mj_at k pc = some (.return_, 1, 0, 0, .null, [])) (hv : mj_ret k none = true) (hd : den z = (.inl none, M)) : mw_W den need k (pc, lv, [], M) (some z) := by
  intro d _ z' hz
  cases hz
  refine ⟨1, ?_⟩
  rw [hd, mj_run, ha]
  simp only [hv, cond_true]
def mw_nw (k pc : Nat) : Option Nat := match mj_at k pc with
  | some (.new _, _, a, _) => bif Nat.blt a 100 then none else some (a - 100)
  | _ => none
theorem mw_th {q : Nat} {z : ρ} (ha : mw_nw k pc = some q) (hh : (mj_hd k).isEmpty = true) (hs : Nat.blt ((st.map fun v => v.category).sum) 9 = true) (hn : 6 ≤ need) (hd : den z = (.inr q, (M.I, M.L, M.F, M.nr, M.nc + 1, M.ns + 6))) : mw_W den need k (pc, lv, st, M) (some z) := by
  intro d hdd z' hz
  cases hz
  refine ⟨1, ?_⟩
  unfold mw_nw at ha
  split at ha
  · rename_i j n a e he
    simp only [Bool.cond_eq_ite] at ha
    split at ha
    · cases ha
    · rename_i hb
      cases ha
      rw [hd, mj_run, he]
      have h5 : Nat.blt 5 d = true := by rw [Nat.blt_eq]; omega
      simp only [hb, hh, hs, h5, Bool.and_self, cond_true, cond_false]
  · cases ha
theorem mw_te {α : Type} (em : α → Option Value) (s : Nat) (t : mw_T) {q : Nat} : mw_d3 em s (.inr q, mw_we t) = (.inr q, ((mw_E s t).I, (mw_E s t).L, (mw_E s t).F, (mw_E s t).nr, (mw_E s t).nc + 1, (mw_E s t).ns + 6)) := rfl
theorem mw_te4 {α : Type} (em : α → Option Value) (s : Nat) (t : mw_T) {q : Nat} : mw_d4 em (.inr q, s, mw_we t) = (.inr q, ((mw_E s t).I, (mw_E s t).L, (mw_E s t).F, (mw_E s t).nr, (mw_E s t).nc + 1, (mw_E s t).ns + 6)) := rfl
end
