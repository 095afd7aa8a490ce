/-! START: the constructors, instruction by instruction (written by wip/whole/gen_start.py) -/
/-- memory as it is made: a new cell of so many slots, a field put -/
def mz_M (B : mj_M) : List (Nat × Option (Nat × Value)) → mj_M
  | [] => B
  | (n, none) :: E => mj_new (mz_M B E) n
  | (r, some (k, .ref q)) :: E => ((mz_M B E).I, (mz_M B E).L, mj_up (mz_M B E).F r k (some q), (mz_M B E).nr, (mz_M B E).nc, (mz_M B E).ns)
  | (r, some (k, .int x)) :: E => (mj_up (mz_M B E).I r k x, (mz_M B E).L, (mz_M B E).F, (mz_M B E).nr, (mz_M B E).nc, (mz_M B E).ns)
  | (r, some (k, .long x)) :: E => ((mz_M B E).I, mj_up (mz_M B E).L r k x, (mz_M B E).F, (mz_M B E).nr, (mz_M B E).nc, (mz_M B E).ns)
  | _ :: E => mz_M B E
theorem mz_app (B : mj_M) (E : List (Nat × Option (Nat × Value))) : ∀ D : List (Nat × Option (Nat × Value)), mz_M (mz_M B E) D = mz_M B (D ++ E) := by
  intro D
  induction D with
  | nil => rfl
  | cons e D ih =>
    obtain ⟨r, o⟩ := e
    rcases o with _ | ⟨k, v⟩
    · rw [List.cons_append, mz_M, mz_M, ih]
    · cases v <;> (rw [List.cons_append]; simp only [mz_M, ih])
theorem mz_st (m : Nat) {d k : Nat} {c y : mj_C} {o : mj_R} {M : mj_M} (h : ∀ n, mj_run (n + m) d k c = mj_run n d k y) (hn : mj_Rn d k y o M) : mj_Rn d k c o M := by
  obtain ⟨n, e⟩ := hn
  exact ⟨n + m, (h n).trans e⟩
/-- a constructor's call, seen from the caller -/
def mz_ca (k : Nat) (c : mj_C) : Option (Nat × List Value × List Value) :=
  match mj_at k c.1 with
  | none => none
  | some e =>
    match e.1 with
    | .invokespecial _ => bif Nat.blt e.2.2.1 1000 && (Nat.blt (((mj_args (e.2.2.2.1 + 1) c.2.2.1).2.map fun v => v.category).sum) 9 && (Nat.beq (mj_args (e.2.2.2.1 + 1) c.2.2.1).1.length (e.2.2.2.1 + 1) && Nat.ble (lg_sl (mj_args (e.2.2.2.1 + 1) c.2.2.1).1).length (mj_ml e.2.2.1)) && mj_fresh c.2.2.2.nr c.2.1 (mj_args (e.2.2.2.1 + 1) c.2.2.1).2) then
        (match (mj_args (e.2.2.2.1 + 1) c.2.2.1).1 with
        | .ref r :: _ => bif Nat.blt r c.2.2.2.nr && (Nat.beq (mj_sh r).1 0 && Nat.beq (mj_sh r).2.1 (((mj_mt e.2.2.1).map fun q => q.2.2.2.2.1).getD 99)) then some (e.2.2.1, (mj_args (e.2.2.2.1 + 1) c.2.2.1).1, (mj_args (e.2.2.2.1 + 1) c.2.2.1).2) else none
        | _ => none) else none
    | _ => none
theorem mz_run_ca {n d k : Nat} {c : mj_C} {k' : Nat} {as rest : List Value} {v : Option Value} {M : mj_M} (h : mz_ca k c = some (k', as, rest)) (hr : mj_run n d k' (0, lv_args 0 as, [], c.2.2.2) = some (.inl v, M)) : mj_run (n + 1) (d + 1) k c = mj_run n (d + 1) k (c.1 + 3, c.2.1, v.toList ++ rest, M) := by
  unfold mz_ca at h
  rw [mj_run]
  cases ha : mj_at k c.1 with
  | none => rw [ha] at h; cases h
  | some E =>
    rw [ha] at h
    obtain ⟨i, len, a, b, v0, tl⟩ := E
    cases i <;> (try (cases h; done))
    case invokespecial j =>
      simp only [Bool.cond_eq_ite] at h ⊢
      split at h
      · rename_i hc
        simp only [Bool.and_eq_true] at hc
        obtain ⟨c1, ⟨c2, c3⟩, c4⟩ := hc
        split at h
        · rename_i r ws hcs
          split at h
          · rename_i h5
            cases h
            rw [if_pos c1]
            simp only [hcs] at hr c2 c3 c4 h5 ⊢
            rw [if_pos (by simp only [Bool.and_eq_true]; exact ⟨c2, c3⟩)]
            rw [if_pos h5, hr]
            simp only
            rw [if_pos c4]
          · cases h
        · cases h
      · cases h
theorem mz_call {d k : Nat} {pc : Nat} {lv : mj_L} {st : List Value} {M0 : mj_M} {k' : Nat} {as rest : List Value} {lv' : mj_L} {o : mj_R} {M' M : mj_M} (h : mz_ca k (pc, lv, st, M0) = some (k', as, rest)) (hl : lv_args 0 as = lv') (hc : mj_Rn d k' (0, lv', [], M0) (.inl none) M') (hk : mj_Rn (d + 1) k (pc + 3, lv, rest, M') o M) : mj_Rn (d + 1) k (pc, lv, st, M0) o M := by
  obtain ⟨n1, h1⟩ := hc
  obtain ⟨n2, h2⟩ := hk
  subst hl
  refine ⟨max n1 n2 + 1, ?_⟩
  rw [mz_run_ca h (mj_mono' h1 (Nat.le_max_left _ _))]
  exact mj_mono' h2 (Nat.le_max_right _ _)
def mz_etext_1 : List (Nat × Option (Nat × Value)) := [(1, some (0, .ref 2)), (160, none)]
set_option maxRecDepth 100000 in
theorem mz_text_1 (M : mj_M) (h : M.nr = 2) : mj_Rn 1198 kText_init (0, [(0, .ref 1)], [], M) (.inl none) (mz_M M (mz_etext_1)) := by
  obtain ⟨I, L, F, nr, nc, ns⟩ := M
  replace h : nr = 2 := h
  subst h
  refine ⟨8, ?_⟩
  with_unfolding_all rfl
def mz_epacket_3 : List (Nat × Option (Nat × Value)) := [(3, some (0, .ref 4)), (80, none)]
set_option maxRecDepth 100000 in
theorem mz_packet_3 (M : mj_M) (h : M.nr = 4) : mj_Rn 1198 kPacket_init (0, [(0, .ref 3)], [], M) (.inl none) (mz_M M (mz_epacket_3)) := by
  obtain ⟨I, L, F, nr, nc, ns⟩ := M
  replace h : nr = 4 := h
  subst h
  refine ⟨8, ?_⟩
  with_unfolding_all rfl
def mz_emachine_5 : List (Nat × Option (Nat × Value)) := [(5, some (1, .ref 6)), (16, none), (5, some (0, .ref 3))]
set_option maxRecDepth 100000 in
theorem mz_machine_5 (M : mj_M) (h : M.nr = 6) : mj_Rn 1198 kMachine_init (0, [(0, .ref 5), (1, .ref 3)], [], M) (.inl none) (mz_M M (mz_emachine_5)) := by
  obtain ⟨I, L, F, nr, nc, ns⟩ := M
  replace h : nr = 6 := h
  subst h
  refine ⟨11, ?_⟩
  with_unfolding_all rfl
def mz_etree_8 : List (Nat × Option (Nat × Value)) := [(8, some (6, .ref 15)), (160, none), (8, some (5, .ref 14)), (160, none), (8, some (4, .ref 13)), (160, none), (8, some (3, .ref 12)), (160, none), (8, some (2, .ref 11)), (160, none), (8, some (1, .ref 10)), (160, none), (8, some (0, .ref 9)), (160, none)]
set_option maxRecDepth 100000 in
theorem mz_tree_8 (M : mj_M) (h : M.nr = 9) : mj_Rn 1197 kTree_init (0, [(0, .ref 8)], [], M) (.inl none) (mz_M M (mz_etree_8)) := by
  obtain ⟨I, L, F, nr, nc, ns⟩ := M
  replace h : nr = 9 := h
  subst h
  refine mz_st 26 (y := (58, [(0, .ref 8)], [], mz_M (I, L, F, 9, nc, ns) ((8, some (5, .ref 14)) :: ((160, none) :: ((8, some (4, .ref 13)) :: ((160, none) :: ((8, some (3, .ref 12)) :: ((160, none) :: ((8, some (2, .ref 11)) :: ((160, none) :: ((8, some (1, .ref 10)) :: ((160, none) :: ((8, some (0, .ref 9)) :: ((160, none) :: [])))))))))))))) (fun n => by with_unfolding_all rfl) ?_
  refine ⟨6, ?_⟩
  with_unfolding_all rfl
def mz_eprogram_16 : List (Nat × Option (Nat × Value)) := [(16, some (4, .int 150)), (16, some (3, .ref 20)), (150, none), (16, some (2, .ref 19)), (150, none), (16, some (1, .ref 18)), (150, none), (16, some (0, .ref 17)), (150, none)]
set_option maxRecDepth 100000 in
theorem mz_program_16 (M : mj_M) (h : M.nr = 17) : mj_Rn 1197 kProgram_init (0, [(0, .ref 16)], [], M) (.inl none) (mz_M M (mz_eprogram_16)) := by
  obtain ⟨I, L, F, nr, nc, ns⟩ := M
  replace h : nr = 17 := h
  subst h
  refine ⟨23, ?_⟩
  with_unfolding_all rfl
def mz_etokens_22 : List (Nat × Option (Nat × Value)) := [(22, some (1, .ref 24)), (160, none), (22, some (0, .ref 23)), (160, none)]
set_option maxRecDepth 100000 in
theorem mz_tokens_22 (M : mj_M) (h : M.nr = 23) : mj_Rn 1196 kTokens_init (0, [(0, .ref 22)], [], M) (.inl none) (mz_M M (mz_etokens_22)) := by
  obtain ⟨I, L, F, nr, nc, ns⟩ := M
  replace h : nr = 23 := h
  subst h
  refine ⟨12, ?_⟩
  with_unfolding_all rfl
def mz_eparser_21 : List (Nat × Option (Nat × Value)) := [(21, some (1, .ref 22)), (22, some (1, .ref 24)), (160, none), (22, some (0, .ref 23)), (160, none), (3, none), (21, some (0, .ref 8))]
set_option maxRecDepth 100000 in
theorem mz_parser_21 (M : mj_M) (h : M.nr = 22) : mj_Rn 1197 kParser_init (0, [(0, .ref 21), (1, .ref 8)], [], M) (.inl none) (mz_M M (mz_eparser_21)) := by
  obtain ⟨I, L, F, nr, nc, ns⟩ := M
  replace h : nr = 22 := h
  subst h
  refine mz_st 8 (y := (14, [(0, .ref 21), (1, .ref 8)], [.ref 22, .ref 22, .ref 21], mz_M (I, L, F, 22, nc, ns) ((3, none) :: ((21, some (0, .ref 8)) :: [])))) (fun n => by with_unfolding_all rfl) ?_
  refine mz_call (d := 1196) (k' := kTokens_init) (as := [.ref 22]) (rest := [.ref 22, .ref 21]) (M' := mz_M (I, L, F, 22, nc, ns) (mz_etokens_22 ++ ((3, none) :: ((21, some (0, .ref 8)) :: [])))) (by with_unfolding_all rfl) rfl (by have h := mz_tokens_22 (mz_M (I, L, F, 22, nc, ns) ((3, none) :: ((21, some (0, .ref 8)) :: []))) (by with_unfolding_all rfl); rw [mz_app] at h; exact h) ?_
  refine ⟨3, ?_⟩
  with_unfolding_all rfl
def mz_ecoder_25 : List (Nat × Option (Nat × Value)) := [(25, some (1, .ref 16)), (25, some (0, .ref 8))]
set_option maxRecDepth 100000 in
theorem mz_coder_25 (M : mj_M) (h : M.nr = 26) : mj_Rn 1197 kCoder_init (0, [(0, .ref 25), (1, .ref 8), (2, .ref 16)], [], M) (.inl none) (mz_M M (mz_ecoder_25)) := by
  obtain ⟨I, L, F, nr, nc, ns⟩ := M
  replace h : nr = 26 := h
  subst h
  refine ⟨10, ?_⟩
  with_unfolding_all rfl
def mz_ejudge_26 : List (Nat × Option (Nat × Value)) := [(26, some (2, .ref 27)), (160, none), (26, some (1, .ref 3)), (26, some (0, .ref 8))]
set_option maxRecDepth 100000 in
theorem mz_judge_26 (M : mj_M) (h : M.nr = 27) : mj_Rn 1197 kJudge_init (0, [(0, .ref 26), (1, .ref 8), (2, .ref 3)], [], M) (.inl none) (mz_M M (mz_ejudge_26)) := by
  obtain ⟨I, L, F, nr, nc, ns⟩ := M
  replace h : nr = 27 := h
  subst h
  refine ⟨14, ?_⟩
  with_unfolding_all rfl
def mz_efilter_7 : List (Nat × Option (Nat × Value)) := [(7, some (3, .ref 26)), (26, some (2, .ref 27)), (160, none), (26, some (1, .ref 3)), (26, some (0, .ref 8)), (3, none), (7, some (2, .ref 25)), (25, some (1, .ref 16)), (25, some (0, .ref 8)), (2, none), (7, some (1, .ref 21)), (21, some (1, .ref 22)), (22, some (1, .ref 24)), (160, none), (22, some (0, .ref 23)), (160, none), (3, none), (21, some (0, .ref 8)), (4, none), (7, some (0, .ref 16)), (16, some (4, .int 150)), (16, some (3, .ref 20)), (150, none), (16, some (2, .ref 19)), (150, none), (16, some (1, .ref 18)), (150, none), (16, some (0, .ref 17)), (150, none), (5, none), (8, some (6, .ref 15)), (160, none), (8, some (5, .ref 14)), (160, none), (8, some (4, .ref 13)), (160, none), (8, some (3, .ref 12)), (160, none), (8, some (2, .ref 11)), (160, none), (8, some (1, .ref 10)), (160, none), (8, some (0, .ref 9)), (160, none), (8, none)]
set_option maxRecDepth 100000 in
theorem mz_filter_7 (M : mj_M) (h : M.nr = 8) : mj_Rn 1198 kFilter_init (0, [(0, .ref 7), (1, .ref 3)], [], M) (.inl none) (mz_M M (mz_efilter_7)) := by
  obtain ⟨I, L, F, nr, nc, ns⟩ := M
  replace h : nr = 8 := h
  subst h
  refine mz_st 4 (y := (8, [(0, .ref 7), (1, .ref 3)], [.ref 8, .ref 8], mz_M (I, L, F, 8, nc, ns) ((8, none) :: []))) (fun n => by with_unfolding_all rfl) ?_
  refine mz_call (d := 1197) (k' := kTree_init) (as := [.ref 8]) (rest := [.ref 8]) (M' := mz_M (I, L, F, 8, nc, ns) (mz_etree_8 ++ ((8, none) :: []))) (by with_unfolding_all rfl) rfl (by have h := mz_tree_8 (mz_M (I, L, F, 8, nc, ns) ((8, none) :: [])) (by with_unfolding_all rfl); rw [mz_app] at h; exact h) ?_
  refine mz_st 4 (y := (17, [(2, .ref 8), (0, .ref 7), (1, .ref 3)], [.ref 16, .ref 16, .ref 7], mz_M (I, L, F, 8, nc, ns) ((5, none) :: (mz_etree_8 ++ ((8, none) :: []))))) (fun n => by with_unfolding_all rfl) ?_
  refine mz_call (d := 1197) (k' := kProgram_init) (as := [.ref 16]) (rest := [.ref 16, .ref 7]) (M' := mz_M (I, L, F, 8, nc, ns) (mz_eprogram_16 ++ ((5, none) :: (mz_etree_8 ++ ((8, none) :: []))))) (by with_unfolding_all rfl) rfl (by have h := mz_program_16 (mz_M (I, L, F, 8, nc, ns) ((5, none) :: (mz_etree_8 ++ ((8, none) :: [])))) (by with_unfolding_all rfl); rw [mz_app] at h; exact h) ?_
  refine mz_st 5 (y := (29, [(2, .ref 8), (0, .ref 7), (1, .ref 3)], [.ref 8, .ref 21, .ref 21, .ref 7], mz_M (I, L, F, 8, nc, ns) ((4, none) :: ((7, some (0, .ref 16)) :: (mz_eprogram_16 ++ ((5, none) :: (mz_etree_8 ++ ((8, none) :: [])))))))) (fun n => by with_unfolding_all rfl) ?_
  refine mz_call (d := 1197) (k' := kParser_init) (as := [.ref 21, .ref 8]) (rest := [.ref 21, .ref 7]) (M' := mz_M (I, L, F, 8, nc, ns) (mz_eparser_21 ++ ((4, none) :: ((7, some (0, .ref 16)) :: (mz_eprogram_16 ++ ((5, none) :: (mz_etree_8 ++ ((8, none) :: [])))))))) (by with_unfolding_all rfl) rfl (by have h := mz_parser_21 (mz_M (I, L, F, 8, nc, ns) ((4, none) :: ((7, some (0, .ref 16)) :: (mz_eprogram_16 ++ ((5, none) :: (mz_etree_8 ++ ((8, none) :: []))))))) (by with_unfolding_all rfl); rw [mz_app] at h; exact h) ?_
  refine mz_st 7 (y := (45, [(2, .ref 8), (0, .ref 7), (1, .ref 3)], [.ref 16, .ref 8, .ref 25, .ref 25, .ref 7], mz_M (I, L, F, 8, nc, ns) ((2, none) :: ((7, some (1, .ref 21)) :: (mz_eparser_21 ++ ((4, none) :: ((7, some (0, .ref 16)) :: (mz_eprogram_16 ++ ((5, none) :: (mz_etree_8 ++ ((8, none) :: []))))))))))) (fun n => by with_unfolding_all rfl) ?_
  refine mz_call (d := 1197) (k' := kCoder_init) (as := [.ref 25, .ref 8, .ref 16]) (rest := [.ref 25, .ref 7]) (M' := mz_M (I, L, F, 8, nc, ns) (mz_ecoder_25 ++ ((2, none) :: ((7, some (1, .ref 21)) :: (mz_eparser_21 ++ ((4, none) :: ((7, some (0, .ref 16)) :: (mz_eprogram_16 ++ ((5, none) :: (mz_etree_8 ++ ((8, none) :: []))))))))))) (by with_unfolding_all rfl) rfl (by have h := mz_coder_25 (mz_M (I, L, F, 8, nc, ns) ((2, none) :: ((7, some (1, .ref 21)) :: (mz_eparser_21 ++ ((4, none) :: ((7, some (0, .ref 16)) :: (mz_eprogram_16 ++ ((5, none) :: (mz_etree_8 ++ ((8, none) :: [])))))))))) (by with_unfolding_all rfl); rw [mz_app] at h; exact h) ?_
  refine mz_st 6 (y := (58, [(2, .ref 8), (0, .ref 7), (1, .ref 3)], [.ref 3, .ref 8, .ref 26, .ref 26, .ref 7], mz_M (I, L, F, 8, nc, ns) ((3, none) :: ((7, some (2, .ref 25)) :: (mz_ecoder_25 ++ ((2, none) :: ((7, some (1, .ref 21)) :: (mz_eparser_21 ++ ((4, none) :: ((7, some (0, .ref 16)) :: (mz_eprogram_16 ++ ((5, none) :: (mz_etree_8 ++ ((8, none) :: [])))))))))))))) (fun n => by with_unfolding_all rfl) ?_
  refine mz_call (d := 1197) (k' := kJudge_init) (as := [.ref 26, .ref 8, .ref 3]) (rest := [.ref 26, .ref 7]) (M' := mz_M (I, L, F, 8, nc, ns) (mz_ejudge_26 ++ ((3, none) :: ((7, some (2, .ref 25)) :: (mz_ecoder_25 ++ ((2, none) :: ((7, some (1, .ref 21)) :: (mz_eparser_21 ++ ((4, none) :: ((7, some (0, .ref 16)) :: (mz_eprogram_16 ++ ((5, none) :: (mz_etree_8 ++ ((8, none) :: [])))))))))))))) (by with_unfolding_all rfl) rfl (by have h := mz_judge_26 (mz_M (I, L, F, 8, nc, ns) ((3, none) :: ((7, some (2, .ref 25)) :: (mz_ecoder_25 ++ ((2, none) :: ((7, some (1, .ref 21)) :: (mz_eparser_21 ++ ((4, none) :: ((7, some (0, .ref 16)) :: (mz_eprogram_16 ++ ((5, none) :: (mz_etree_8 ++ ((8, none) :: []))))))))))))) (by with_unfolding_all rfl); rw [mz_app] at h; exact h) ?_
  refine ⟨3, ?_⟩
  with_unfolding_all rfl
def mz_etree_29 : List (Nat × Option (Nat × Value)) := [(29, some (6, .ref 36)), (160, none), (29, some (5, .ref 35)), (160, none), (29, some (4, .ref 34)), (160, none), (29, some (3, .ref 33)), (160, none), (29, some (2, .ref 32)), (160, none), (29, some (1, .ref 31)), (160, none), (29, some (0, .ref 30)), (160, none)]
set_option maxRecDepth 100000 in
theorem mz_tree_29 (M : mj_M) (h : M.nr = 30) : mj_Rn 1197 kTree_init (0, [(0, .ref 29)], [], M) (.inl none) (mz_M M (mz_etree_29)) := by
  obtain ⟨I, L, F, nr, nc, ns⟩ := M
  replace h : nr = 30 := h
  subst h
  refine mz_st 26 (y := (58, [(0, .ref 29)], [], mz_M (I, L, F, 30, nc, ns) ((29, some (5, .ref 35)) :: ((160, none) :: ((29, some (4, .ref 34)) :: ((160, none) :: ((29, some (3, .ref 33)) :: ((160, none) :: ((29, some (2, .ref 32)) :: ((160, none) :: ((29, some (1, .ref 31)) :: ((160, none) :: ((29, some (0, .ref 30)) :: ((160, none) :: [])))))))))))))) (fun n => by with_unfolding_all rfl) ?_
  refine ⟨6, ?_⟩
  with_unfolding_all rfl
def mz_eprogram_37 : List (Nat × Option (Nat × Value)) := [(37, some (4, .int 150)), (37, some (3, .ref 41)), (150, none), (37, some (2, .ref 40)), (150, none), (37, some (1, .ref 39)), (150, none), (37, some (0, .ref 38)), (150, none)]
set_option maxRecDepth 100000 in
theorem mz_program_37 (M : mj_M) (h : M.nr = 38) : mj_Rn 1197 kProgram_init (0, [(0, .ref 37)], [], M) (.inl none) (mz_M M (mz_eprogram_37)) := by
  obtain ⟨I, L, F, nr, nc, ns⟩ := M
  replace h : nr = 38 := h
  subst h
  refine ⟨23, ?_⟩
  with_unfolding_all rfl
def mz_etokens_43 : List (Nat × Option (Nat × Value)) := [(43, some (1, .ref 45)), (160, none), (43, some (0, .ref 44)), (160, none)]
set_option maxRecDepth 100000 in
theorem mz_tokens_43 (M : mj_M) (h : M.nr = 44) : mj_Rn 1196 kTokens_init (0, [(0, .ref 43)], [], M) (.inl none) (mz_M M (mz_etokens_43)) := by
  obtain ⟨I, L, F, nr, nc, ns⟩ := M
  replace h : nr = 44 := h
  subst h
  refine ⟨12, ?_⟩
  with_unfolding_all rfl
def mz_eparser_42 : List (Nat × Option (Nat × Value)) := [(42, some (1, .ref 43)), (43, some (1, .ref 45)), (160, none), (43, some (0, .ref 44)), (160, none), (3, none), (42, some (0, .ref 29))]
set_option maxRecDepth 100000 in
theorem mz_parser_42 (M : mj_M) (h : M.nr = 43) : mj_Rn 1197 kParser_init (0, [(0, .ref 42), (1, .ref 29)], [], M) (.inl none) (mz_M M (mz_eparser_42)) := by
  obtain ⟨I, L, F, nr, nc, ns⟩ := M
  replace h : nr = 43 := h
  subst h
  refine mz_st 8 (y := (14, [(0, .ref 42), (1, .ref 29)], [.ref 43, .ref 43, .ref 42], mz_M (I, L, F, 43, nc, ns) ((3, none) :: ((42, some (0, .ref 29)) :: [])))) (fun n => by with_unfolding_all rfl) ?_
  refine mz_call (d := 1196) (k' := kTokens_init) (as := [.ref 43]) (rest := [.ref 43, .ref 42]) (M' := mz_M (I, L, F, 43, nc, ns) (mz_etokens_43 ++ ((3, none) :: ((42, some (0, .ref 29)) :: [])))) (by with_unfolding_all rfl) rfl (by have h := mz_tokens_43 (mz_M (I, L, F, 43, nc, ns) ((3, none) :: ((42, some (0, .ref 29)) :: []))) (by with_unfolding_all rfl); rw [mz_app] at h; exact h) ?_
  refine ⟨3, ?_⟩
  with_unfolding_all rfl
def mz_ecoder_46 : List (Nat × Option (Nat × Value)) := [(46, some (1, .ref 37)), (46, some (0, .ref 29))]
set_option maxRecDepth 100000 in
theorem mz_coder_46 (M : mj_M) (h : M.nr = 47) : mj_Rn 1197 kCoder_init (0, [(0, .ref 46), (1, .ref 29), (2, .ref 37)], [], M) (.inl none) (mz_M M (mz_ecoder_46)) := by
  obtain ⟨I, L, F, nr, nc, ns⟩ := M
  replace h : nr = 47 := h
  subst h
  refine ⟨10, ?_⟩
  with_unfolding_all rfl
def mz_ejudge_47 : List (Nat × Option (Nat × Value)) := [(47, some (2, .ref 48)), (160, none), (47, some (1, .ref 3)), (47, some (0, .ref 29))]
set_option maxRecDepth 100000 in
theorem mz_judge_47 (M : mj_M) (h : M.nr = 48) : mj_Rn 1197 kJudge_init (0, [(0, .ref 47), (1, .ref 29), (2, .ref 3)], [], M) (.inl none) (mz_M M (mz_ejudge_47)) := by
  obtain ⟨I, L, F, nr, nc, ns⟩ := M
  replace h : nr = 48 := h
  subst h
  refine ⟨14, ?_⟩
  with_unfolding_all rfl
def mz_efilter_28 : List (Nat × Option (Nat × Value)) := [(28, some (3, .ref 47)), (47, some (2, .ref 48)), (160, none), (47, some (1, .ref 3)), (47, some (0, .ref 29)), (3, none), (28, some (2, .ref 46)), (46, some (1, .ref 37)), (46, some (0, .ref 29)), (2, none), (28, some (1, .ref 42)), (42, some (1, .ref 43)), (43, some (1, .ref 45)), (160, none), (43, some (0, .ref 44)), (160, none), (3, none), (42, some (0, .ref 29)), (4, none), (28, some (0, .ref 37)), (37, some (4, .int 150)), (37, some (3, .ref 41)), (150, none), (37, some (2, .ref 40)), (150, none), (37, some (1, .ref 39)), (150, none), (37, some (0, .ref 38)), (150, none), (5, none), (29, some (6, .ref 36)), (160, none), (29, some (5, .ref 35)), (160, none), (29, some (4, .ref 34)), (160, none), (29, some (3, .ref 33)), (160, none), (29, some (2, .ref 32)), (160, none), (29, some (1, .ref 31)), (160, none), (29, some (0, .ref 30)), (160, none), (8, none)]
set_option maxRecDepth 100000 in
theorem mz_filter_28 (M : mj_M) (h : M.nr = 29) : mj_Rn 1198 kFilter_init (0, [(0, .ref 28), (1, .ref 3)], [], M) (.inl none) (mz_M M (mz_efilter_28)) := by
  obtain ⟨I, L, F, nr, nc, ns⟩ := M
  replace h : nr = 29 := h
  subst h
  refine mz_st 4 (y := (8, [(0, .ref 28), (1, .ref 3)], [.ref 29, .ref 29], mz_M (I, L, F, 29, nc, ns) ((8, none) :: []))) (fun n => by with_unfolding_all rfl) ?_
  refine mz_call (d := 1197) (k' := kTree_init) (as := [.ref 29]) (rest := [.ref 29]) (M' := mz_M (I, L, F, 29, nc, ns) (mz_etree_29 ++ ((8, none) :: []))) (by with_unfolding_all rfl) rfl (by have h := mz_tree_29 (mz_M (I, L, F, 29, nc, ns) ((8, none) :: [])) (by with_unfolding_all rfl); rw [mz_app] at h; exact h) ?_
  refine mz_st 4 (y := (17, [(2, .ref 29), (0, .ref 28), (1, .ref 3)], [.ref 37, .ref 37, .ref 28], mz_M (I, L, F, 29, nc, ns) ((5, none) :: (mz_etree_29 ++ ((8, none) :: []))))) (fun n => by with_unfolding_all rfl) ?_
  refine mz_call (d := 1197) (k' := kProgram_init) (as := [.ref 37]) (rest := [.ref 37, .ref 28]) (M' := mz_M (I, L, F, 29, nc, ns) (mz_eprogram_37 ++ ((5, none) :: (mz_etree_29 ++ ((8, none) :: []))))) (by with_unfolding_all rfl) rfl (by have h := mz_program_37 (mz_M (I, L, F, 29, nc, ns) ((5, none) :: (mz_etree_29 ++ ((8, none) :: [])))) (by with_unfolding_all rfl); rw [mz_app] at h; exact h) ?_
  refine mz_st 5 (y := (29, [(2, .ref 29), (0, .ref 28), (1, .ref 3)], [.ref 29, .ref 42, .ref 42, .ref 28], mz_M (I, L, F, 29, nc, ns) ((4, none) :: ((28, some (0, .ref 37)) :: (mz_eprogram_37 ++ ((5, none) :: (mz_etree_29 ++ ((8, none) :: [])))))))) (fun n => by with_unfolding_all rfl) ?_
  refine mz_call (d := 1197) (k' := kParser_init) (as := [.ref 42, .ref 29]) (rest := [.ref 42, .ref 28]) (M' := mz_M (I, L, F, 29, nc, ns) (mz_eparser_42 ++ ((4, none) :: ((28, some (0, .ref 37)) :: (mz_eprogram_37 ++ ((5, none) :: (mz_etree_29 ++ ((8, none) :: [])))))))) (by with_unfolding_all rfl) rfl (by have h := mz_parser_42 (mz_M (I, L, F, 29, nc, ns) ((4, none) :: ((28, some (0, .ref 37)) :: (mz_eprogram_37 ++ ((5, none) :: (mz_etree_29 ++ ((8, none) :: []))))))) (by with_unfolding_all rfl); rw [mz_app] at h; exact h) ?_
  refine mz_st 7 (y := (45, [(2, .ref 29), (0, .ref 28), (1, .ref 3)], [.ref 37, .ref 29, .ref 46, .ref 46, .ref 28], mz_M (I, L, F, 29, nc, ns) ((2, none) :: ((28, some (1, .ref 42)) :: (mz_eparser_42 ++ ((4, none) :: ((28, some (0, .ref 37)) :: (mz_eprogram_37 ++ ((5, none) :: (mz_etree_29 ++ ((8, none) :: []))))))))))) (fun n => by with_unfolding_all rfl) ?_
  refine mz_call (d := 1197) (k' := kCoder_init) (as := [.ref 46, .ref 29, .ref 37]) (rest := [.ref 46, .ref 28]) (M' := mz_M (I, L, F, 29, nc, ns) (mz_ecoder_46 ++ ((2, none) :: ((28, some (1, .ref 42)) :: (mz_eparser_42 ++ ((4, none) :: ((28, some (0, .ref 37)) :: (mz_eprogram_37 ++ ((5, none) :: (mz_etree_29 ++ ((8, none) :: []))))))))))) (by with_unfolding_all rfl) rfl (by have h := mz_coder_46 (mz_M (I, L, F, 29, nc, ns) ((2, none) :: ((28, some (1, .ref 42)) :: (mz_eparser_42 ++ ((4, none) :: ((28, some (0, .ref 37)) :: (mz_eprogram_37 ++ ((5, none) :: (mz_etree_29 ++ ((8, none) :: [])))))))))) (by with_unfolding_all rfl); rw [mz_app] at h; exact h) ?_
  refine mz_st 6 (y := (58, [(2, .ref 29), (0, .ref 28), (1, .ref 3)], [.ref 3, .ref 29, .ref 47, .ref 47, .ref 28], mz_M (I, L, F, 29, nc, ns) ((3, none) :: ((28, some (2, .ref 46)) :: (mz_ecoder_46 ++ ((2, none) :: ((28, some (1, .ref 42)) :: (mz_eparser_42 ++ ((4, none) :: ((28, some (0, .ref 37)) :: (mz_eprogram_37 ++ ((5, none) :: (mz_etree_29 ++ ((8, none) :: [])))))))))))))) (fun n => by with_unfolding_all rfl) ?_
  refine mz_call (d := 1197) (k' := kJudge_init) (as := [.ref 47, .ref 29, .ref 3]) (rest := [.ref 47, .ref 28]) (M' := mz_M (I, L, F, 29, nc, ns) (mz_ejudge_47 ++ ((3, none) :: ((28, some (2, .ref 46)) :: (mz_ecoder_46 ++ ((2, none) :: ((28, some (1, .ref 42)) :: (mz_eparser_42 ++ ((4, none) :: ((28, some (0, .ref 37)) :: (mz_eprogram_37 ++ ((5, none) :: (mz_etree_29 ++ ((8, none) :: [])))))))))))))) (by with_unfolding_all rfl) rfl (by have h := mz_judge_47 (mz_M (I, L, F, 29, nc, ns) ((3, none) :: ((28, some (2, .ref 46)) :: (mz_ecoder_46 ++ ((2, none) :: ((28, some (1, .ref 42)) :: (mz_eparser_42 ++ ((4, none) :: ((28, some (0, .ref 37)) :: (mz_eprogram_37 ++ ((5, none) :: (mz_etree_29 ++ ((8, none) :: []))))))))))))) (by with_unfolding_all rfl); rw [mz_app] at h; exact h) ?_
  refine ⟨3, ?_⟩
  with_unfolding_all rfl
def mz_esieve (x : Int32) : List (Nat × Option (Nat × Value)) := [(0, some (5, .ref 28)), (28, some (3, .ref 47)), (47, some (2, .ref 48)), (160, none), (47, some (1, .ref 3)), (47, some (0, .ref 29)), (3, none), (28, some (2, .ref 46)), (46, some (1, .ref 37)), (46, some (0, .ref 29)), (2, none), (28, some (1, .ref 42)), (42, some (1, .ref 43)), (43, some (1, .ref 45)), (160, none), (43, some (0, .ref 44)), (160, none), (3, none), (42, some (0, .ref 29)), (4, none), (28, some (0, .ref 37)), (37, some (4, .int 150)), (37, some (3, .ref 41)), (150, none), (37, some (2, .ref 40)), (150, none), (37, some (1, .ref 39)), (150, none), (37, some (0, .ref 38)), (150, none), (5, none), (29, some (6, .ref 36)), (160, none), (29, some (5, .ref 35)), (160, none), (29, some (4, .ref 34)), (160, none), (29, some (3, .ref 33)), (160, none), (29, some (2, .ref 32)), (160, none), (29, some (1, .ref 31)), (160, none), (29, some (0, .ref 30)), (160, none), (8, none), (4, none), (0, some (4, .ref 7)), (7, some (3, .ref 26)), (26, some (2, .ref 27)), (160, none), (26, some (1, .ref 3)), (26, some (0, .ref 8)), (3, none), (7, some (2, .ref 25)), (25, some (1, .ref 16)), (25, some (0, .ref 8)), (2, none), (7, some (1, .ref 21)), (21, some (1, .ref 22)), (22, some (1, .ref 24)), (160, none), (22, some (0, .ref 23)), (160, none), (3, none), (21, some (0, .ref 8)), (4, none), (7, some (0, .ref 16)), (16, some (4, .int 150)), (16, some (3, .ref 20)), (150, none), (16, some (2, .ref 19)), (150, none), (16, some (1, .ref 18)), (150, none), (16, some (0, .ref 17)), (150, none), (5, none), (8, some (6, .ref 15)), (160, none), (8, some (5, .ref 14)), (160, none), (8, some (4, .ref 13)), (160, none), (8, some (3, .ref 12)), (160, none), (8, some (2, .ref 11)), (160, none), (8, some (1, .ref 10)), (160, none), (8, some (0, .ref 9)), (160, none), (8, none), (4, none), (0, some (3, .ref 5)), (5, some (1, .ref 6)), (16, none), (5, some (0, .ref 3)), (5, none), (0, some (2, .ref 3)), (3, some (0, .ref 4)), (80, none), (2, none), (0, some (1, .ref 1)), (1, some (0, .ref 2)), (160, none), (2, none), (0, some (0, .int (if x < 1 then 1 else x)))]
set_option maxRecDepth 100000 in
theorem mz_sieve (x : Int32) (M : mj_M) (h : M.nr = 1) : mj_Rn 1199 kSieve_init (0, [(0, .ref 0), (1, .int x)], [], M) (.inl none) (mz_M M (mz_esieve x)) := by
  obtain ⟨I, L, F, nr, nc, ns⟩ := M
  replace h : nr = 1 := h
  subst h
  refine mz_st 10 (y := (18, [(0, .ref 0), (1, .int x)], [.ref 1, .ref 1, .ref 0], mz_M (I, L, F, 1, nc, ns) ((2, none) :: ((0, some (0, .int (if x < 1 then 1 else x))) :: [])))) (fun n => by with_unfolding_all rfl) ?_
  refine mz_call (d := 1198) (k' := kText_init) (as := [.ref 1]) (rest := [.ref 1, .ref 0]) (M' := mz_M (I, L, F, 1, nc, ns) (mz_etext_1 ++ ((2, none) :: ((0, some (0, .int (if x < 1 then 1 else x))) :: [])))) (by with_unfolding_all rfl) rfl (by have h := mz_text_1 (mz_M (I, L, F, 1, nc, ns) ((2, none) :: ((0, some (0, .int (if x < 1 then 1 else x))) :: []))) (by with_unfolding_all rfl); rw [mz_app] at h; exact h) ?_
  refine mz_st 4 (y := (29, [(0, .ref 0), (1, .int x)], [.ref 3, .ref 3, .ref 0], mz_M (I, L, F, 1, nc, ns) ((2, none) :: ((0, some (1, .ref 1)) :: (mz_etext_1 ++ ((2, none) :: ((0, some (0, .int (if x < 1 then 1 else x))) :: []))))))) (fun n => by with_unfolding_all rfl) ?_
  refine mz_call (d := 1198) (k' := kPacket_init) (as := [.ref 3]) (rest := [.ref 3, .ref 0]) (M' := mz_M (I, L, F, 1, nc, ns) (mz_epacket_3 ++ ((2, none) :: ((0, some (1, .ref 1)) :: (mz_etext_1 ++ ((2, none) :: ((0, some (0, .int (if x < 1 then 1 else x))) :: []))))))) (by with_unfolding_all rfl) rfl (by have h := mz_packet_3 (mz_M (I, L, F, 1, nc, ns) ((2, none) :: ((0, some (1, .ref 1)) :: (mz_etext_1 ++ ((2, none) :: ((0, some (0, .int (if x < 1 then 1 else x))) :: [])))))) (by with_unfolding_all rfl); rw [mz_app] at h; exact h) ?_
  refine mz_st 6 (y := (44, [(0, .ref 0), (1, .int x)], [.ref 3, .ref 5, .ref 5, .ref 0], mz_M (I, L, F, 1, nc, ns) ((5, none) :: ((0, some (2, .ref 3)) :: (mz_epacket_3 ++ ((2, none) :: ((0, some (1, .ref 1)) :: (mz_etext_1 ++ ((2, none) :: ((0, some (0, .int (if x < 1 then 1 else x))) :: [])))))))))) (fun n => by with_unfolding_all rfl) ?_
  refine mz_call (d := 1198) (k' := kMachine_init) (as := [.ref 5, .ref 3]) (rest := [.ref 5, .ref 0]) (M' := mz_M (I, L, F, 1, nc, ns) (mz_emachine_5 ++ ((5, none) :: ((0, some (2, .ref 3)) :: (mz_epacket_3 ++ ((2, none) :: ((0, some (1, .ref 1)) :: (mz_etext_1 ++ ((2, none) :: ((0, some (0, .int (if x < 1 then 1 else x))) :: [])))))))))) (by with_unfolding_all rfl) rfl (by have h := mz_machine_5 (mz_M (I, L, F, 1, nc, ns) ((5, none) :: ((0, some (2, .ref 3)) :: (mz_epacket_3 ++ ((2, none) :: ((0, some (1, .ref 1)) :: (mz_etext_1 ++ ((2, none) :: ((0, some (0, .int (if x < 1 then 1 else x))) :: []))))))))) (by with_unfolding_all rfl); rw [mz_app] at h; exact h) ?_
  refine mz_st 6 (y := (59, [(0, .ref 0), (1, .int x)], [.ref 3, .ref 7, .ref 7, .ref 0], mz_M (I, L, F, 1, nc, ns) ((4, none) :: ((0, some (3, .ref 5)) :: (mz_emachine_5 ++ ((5, none) :: ((0, some (2, .ref 3)) :: (mz_epacket_3 ++ ((2, none) :: ((0, some (1, .ref 1)) :: (mz_etext_1 ++ ((2, none) :: ((0, some (0, .int (if x < 1 then 1 else x))) :: []))))))))))))) (fun n => by with_unfolding_all rfl) ?_
  refine mz_call (d := 1198) (k' := kFilter_init) (as := [.ref 7, .ref 3]) (rest := [.ref 7, .ref 0]) (M' := mz_M (I, L, F, 1, nc, ns) (mz_efilter_7 ++ ((4, none) :: ((0, some (3, .ref 5)) :: (mz_emachine_5 ++ ((5, none) :: ((0, some (2, .ref 3)) :: (mz_epacket_3 ++ ((2, none) :: ((0, some (1, .ref 1)) :: (mz_etext_1 ++ ((2, none) :: ((0, some (0, .int (if x < 1 then 1 else x))) :: []))))))))))))) (by with_unfolding_all rfl) rfl (by have h := mz_filter_7 (mz_M (I, L, F, 1, nc, ns) ((4, none) :: ((0, some (3, .ref 5)) :: (mz_emachine_5 ++ ((5, none) :: ((0, some (2, .ref 3)) :: (mz_epacket_3 ++ ((2, none) :: ((0, some (1, .ref 1)) :: (mz_etext_1 ++ ((2, none) :: ((0, some (0, .int (if x < 1 then 1 else x))) :: [])))))))))))) (by with_unfolding_all rfl); rw [mz_app] at h; exact h) ?_
  refine mz_st 6 (y := (74, [(0, .ref 0), (1, .int x)], [.ref 3, .ref 28, .ref 28, .ref 0], mz_M (I, L, F, 1, nc, ns) ((4, none) :: ((0, some (4, .ref 7)) :: (mz_efilter_7 ++ ((4, none) :: ((0, some (3, .ref 5)) :: (mz_emachine_5 ++ ((5, none) :: ((0, some (2, .ref 3)) :: (mz_epacket_3 ++ ((2, none) :: ((0, some (1, .ref 1)) :: (mz_etext_1 ++ ((2, none) :: ((0, some (0, .int (if x < 1 then 1 else x))) :: [])))))))))))))))) (fun n => by with_unfolding_all rfl) ?_
  refine mz_call (d := 1198) (k' := kFilter_init) (as := [.ref 28, .ref 3]) (rest := [.ref 28, .ref 0]) (M' := mz_M (I, L, F, 1, nc, ns) (mz_efilter_28 ++ ((4, none) :: ((0, some (4, .ref 7)) :: (mz_efilter_7 ++ ((4, none) :: ((0, some (3, .ref 5)) :: (mz_emachine_5 ++ ((5, none) :: ((0, some (2, .ref 3)) :: (mz_epacket_3 ++ ((2, none) :: ((0, some (1, .ref 1)) :: (mz_etext_1 ++ ((2, none) :: ((0, some (0, .int (if x < 1 then 1 else x))) :: [])))))))))))))))) (by with_unfolding_all rfl) rfl (by have h := mz_filter_28 (mz_M (I, L, F, 1, nc, ns) ((4, none) :: ((0, some (4, .ref 7)) :: (mz_efilter_7 ++ ((4, none) :: ((0, some (3, .ref 5)) :: (mz_emachine_5 ++ ((5, none) :: ((0, some (2, .ref 3)) :: (mz_epacket_3 ++ ((2, none) :: ((0, some (1, .ref 1)) :: (mz_etext_1 ++ ((2, none) :: ((0, some (0, .int (if x < 1 then 1 else x))) :: []))))))))))))))) (by with_unfolding_all rfl); rw [mz_app] at h; exact h) ?_
  refine ⟨3, ?_⟩
  with_unfolding_all rfl
