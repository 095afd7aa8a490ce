/-! CODE of leaves and conditions; jumps: 0 the next, 1 the one behind it, 2 where it holds, 3 where it fails -/
def mt_jv (j r dy dn : Nat) : Nat := if j = 2 then r + dy else if j = 3 then r + dn else j
def mt_rs : mi_P → Nat → Nat → mi_P
  | [], _, _ => []
  | z :: L, dy, dn => (z.1, mt_jv z.2.1 L.length dy dn, mt_jv z.2.2.1 L.length dy dn, z.2.2.2) :: mt_rs L dy dn
theorem mt_rs_len (L : mi_P) (dy dn : Nat) : (mt_rs L dy dn).length = L.length := by
  induction L with
  | nil => rfl
  | cons z L ih => rw [mt_rs, List.length_cons, List.length_cons, ih]
theorem mt_jv_add (j r m dy dn : Nat) : mt_jv j (r + m) dy dn = mt_jv j r (dy + m) (dn + m) := by
  unfold mt_jv
  split
  · omega
  split
  · omega
  · rfl
theorem mt_rs_app (A B : mi_P) (dy dn : Nat) : mt_rs (A ++ B) dy dn = mt_rs A (dy + B.length) (dn + B.length) ++ mt_rs B dy dn := by
  induction A with
  | nil => rfl
  | cons z A ih => rw [List.cons_append, mt_rs, mt_rs, ih, List.cons_append, List.length_append, mt_jv_add, mt_jv_add]
/-- no jumps at all -/
def mt_pl (L : mi_P) : Prop := ∀ z ∈ L, z.2.1 = 0 ∧ z.2.2.1 = 0
theorem mt_rs_pl {L : mi_P} (h : mt_pl L) (dy dn : Nat) : mt_rs L dy dn = L := by
  induction L with
  | nil => rfl
  | cons z L ih =>
    obtain ⟨h1, h2⟩ := h z List.mem_cons_self
    rw [mt_rs, ih (fun y hy => h y (List.mem_cons_of_mem _ hy)), h1, h2]
    obtain ⟨z1, z2, z3, z4⟩ := z
    simp only at h1 h2
    subst h1; subst h2
    rfl
theorem mt_pl_app {A B : mi_P} (h1 : mt_pl A) (h2 : mt_pl B) : mt_pl (A ++ B) := by
  intro z hz
  rcases List.mem_append.mp hz with h | h
  · exact h1 z h
  · exact h2 z h
theorem mt_pl_one (op : Nat) (w : Int64) : mt_pl [(op, 0, 0, w)] := by
  intro z hz
  rw [List.mem_singleton] at hz
  subst hz
  exact ⟨rfl, rfl⟩
theorem mt_gV_pl : ∀ (X : mt_T), mt_V X → ∀ c, mt_pl (mt_gV X c) := by
  intro X hX
  refine mt_Vind (P := fun X => ∀ c, mt_pl (mt_gV X c)) ?_ ?_ ?_ ?_ X hX
  · intro a n m hn c; rw [mt_gV_nd, if_pos rfl]; exact mt_pl_one _ _
  · intro a n m c; rw [mt_gV_nd, if_neg (by decide), if_pos rfl]; exact mt_pl_one _ _
  · intro a n m l ha hn hl ih c
    rw [mt_gV_nd, if_neg (by decide), if_neg (by decide), if_pos rfl]
    split
    · exact mt_pl_one _ _
    · refine mt_pl_app (ih c) (mt_pl_app ?_ (mt_pl_app (mt_pl_one 12 _) (mt_pl_one _ _)))
      split
      · exact mt_pl_app (mt_pl_one 11 _) (mt_pl_app (mt_pl_one 8 _) (mt_pl_app (mt_pl_one 9 _) (mt_pl_one 30 _)))
      · intro z hz; cases hz
  · intro a n m l r ha hl hr ih1 ih2 c
    rw [mt_gV_nd, if_neg (by decide), if_neg (by decide), if_neg (by decide)]
    split
    · exact mt_pl_app (ih1 c) (mt_pl_one _ _)
    · exact mt_pl_app (ih2 c) (mt_pl_app (mt_pl_one _ _) (mt_pl_app (ih1 _) (mt_pl_app (mt_pl_one _ _) (mt_pl_one _ _))))
/-- the pieces -/
def mt_gP (p jy : Nat) : mi_P := if p = 1 then [(3, 0, 0, nL 12), (40, jy, 3, nL 2048)] else [(3, 0, 0, nL 12), (40, 0, 3, nL 2048), (2, 0, 0, nL 23), (40, jy, 3, mq_no p)]
def mt_gW : mi_P := [(3, 0, 0, nL 20), (43, 3, 0, nL 8191)]
def mt_gE (k ld p jn : Nat) (w m : Int64) : mi_P := ([(ld, 0, 0, nL p)] ++ (if k = 11 then [(26, 0, 0, m)] else [])) ++ [(40, 2, jn, w &&& m)]
def mt_gEs (k ld p q e : Nat) (w m : Int64) : mi_P := if e = 1 then mt_gE k ld p 3 w m else if e = 2 then mt_gE k ld q 3 w m else mt_gE k ld p 0 w m ++ mt_gE k ld q 3 w m
def mt_gT (l r : mt_T) (c : Nat) : mi_P := mt_gV r c ++ ([(11, 0, 0, nL c)] ++ (mt_gV l (c + 1) ++ [(10, 0, 0, nL c)]))
def mt_gC (a : Nat) (l r : mt_T) : mi_P :=
  if mt_isN r = true then mt_gV l 0 ++ [(40 + (a - 8) / 2, if (a - 8) % 2 = 1 then 3 else 2, if (a - 8) % 2 = 1 then 2 else 3, nL (mt_num r))]
  else mt_gT l r 0 ++ [(50 + (a - 8) / 2, if (a - 8) % 2 = 1 then 3 else 2, if (a - 8) % 2 = 1 then 2 else 3, nL 0)]
def mt_gL (k a n m : Nat) (l r : mt_T) : mi_P :=
  if k = 8 then (if mt_ac 1 l || mt_ac 1 r then mt_gP 1 0 else []) ++ ((if mt_ac 2 l || mt_ac 2 r then mt_gP 2 0 ++ mt_gW else []) ++ ((if mt_ac 3 l || mt_ac 3 r then mt_gP 3 0 ++ mt_gW else []) ++ mt_gC a l r)) else
  if k = 9 then mt_gP a 2 else
  if k = 12 then mt_gP 1 0 ++ ([(2, 0, 0, nL 23)] ++ ([(40, 1, 0, nL 6)] ++ ([(40, 0, 3, nL 17)] ++ (mt_gW ++ ([(8, 0, 0, nL 14)] ++ mt_gEs 12 6 14 16 a (nL n) (mq_nm 12 m)))))) else
  mt_gP 1 0 ++ mt_gEs k 4 26 30 a (nL n) (mq_nm k m)
/-- the code of a condition -/
def mt_ge : mt_T → Nat → Nat → mi_P
  | .tag k (.tag a (.tag n (.tag m (.append l r)))), dy, dn =>
    if k = 5 then mt_ge l 0 (dn + (mt_ge r dy dn).length) ++ mt_ge r dy dn else if k = 6 then mt_ge l (dy + (mt_ge r dy dn).length) 0 ++ mt_ge r dy dn else if k = 7 then mt_ge l dn dy else mt_rs (mt_gL k a n m l r) dy dn
  | _, _, _ => []
theorem mt_ge_nd (k a n m : Nat) (l r : mt_T) (dy dn : Nat) : mt_ge (mt_nd k a n m l r) dy dn = if k = 5 then mt_ge l 0 (dn + (mt_ge r dy dn).length) ++ mt_ge r dy dn else if k = 6 then mt_ge l (dy + (mt_ge r dy dn).length) 0 ++ mt_ge r dy dn else if k = 7 then mt_ge l dn dy else mt_rs (mt_gL k a n m l r) dy dn := by rw [mt_nd, mt_ge]
section
variable {N R o : Nat}
theorem mt_c_field {t : mw_T} {s : Nat} (hs : t.1 (16 + o) 4 = nI s) (hl : s ≤ 150) (p n : Nat) (hn : n = 1 ∨ n = 2 ∨ n = 4) : mi_co o t s [(2 + n / 2, 0, 0, nL p)] (mf_Coder_field N R o (nL p) (nI n) t) := by
  rw [mf_Coder_field, mi_bid, show (2 : Int32) + (nI n / (2 : Int32)) = nI (2 + n / 2) from mt_half hn 2 (by omega)]
  exact mi_co_pre N R o hs hl (2 + n / 2) _ (by omega)
theorem mt_c_b41 {t : mw_T} {s : Nat} (hs : t.1 (16 + o) 4 = nI s) (hl : s ≤ 150) (y n : Nat) (hy : s ≤ y) (hn : s ≤ n) : mi_co o t s [(3, 0, 0, nL 12), (40, y - s, n - s, nL 2048)] (mf_Coder_protocol_b41 N R o (nI n) (nI y) t) := by
  rw [mf_Coder_protocol_b41]
  refine mi_co_b (A := [(3, 0, 0, nL 12)]) (mi_co_tst N R o hs hl 40 (nL 2048) (by omega) y n hy hn) (fun T h1 hs1 he1 => ?_)
  rw [mi_bid]
  exact mt_c_field hs1 (by omega) 12 2 (by omega)
theorem mt_c_proto {t : mw_T} {s : Nat} (hs : t.1 (16 + o) 4 = nI s) (hl : s ≤ 150) (p y n : Nat) (hp : p = 1 ∨ p = 2 ∨ p = 3) (hy : s ≤ y) (hn : s ≤ n) : mi_co o t s (mt_rs (mt_gP p 2) (y - s) (n - s)) (mf_Coder_protocol N R o (nI (mq_cp p)) (nI y) (nI n) t) := by
  have two : p ≠ 1 → ∀ v : Int32, v.toInt64 = mq_no p → mi_co o t s (mt_rs (mt_gP p 2) (y - s) (n - s)) (mw_b (mf_Program_prependTest N R o (40 : Int32) v.toInt64 (nI y) (nI n) t) (fun _ t2 => (mw_b (mf_Coder_field N R o (23 : Int64) (1 : Int32) t2) (fun _ t3 => (mw_b (mf_Program_start N R o t3) (fun v4 t4 => (mf_Coder_protocol_b41 N R o (nI n) v4 t4))))))) := by
    intro h1 v hv
    rw [hv, mt_gP, if_neg h1]
    have e : mt_rs [(3, 0, 0, nL 12), (40, 0, 3, nL 2048), (2, 0, 0, nL 23), (40, 2, 3, mq_no p)] (y - s) (n - s) = ([(3, 0, 0, nL 12), (40, 0, 2 + (n - s), nL 2048)] ++ [(2, 0, 0, nL 23)]) ++ [(40, y - s, n - s, mq_no p)] := by
      simp only [mt_rs, mt_jv, List.length_cons, List.length_nil, List.cons_append, List.nil_append]
      simp
    rw [e]
    refine mi_co_b (mi_co_tst N R o hs hl 40 _ (by omega) y n hy hn) (fun T h1 hs1 he1 => ?_)
    simp only [List.length_cons, List.length_nil, Nat.zero_add] at h1 hs1 ⊢
    refine mi_co_b (mt_c_field (N := N) (R := R) hs1 (by omega) 23 1 (by omega)) (fun T2 h2 hs2 he2 => ?_)
    simp only [List.length_cons, List.length_nil, Nat.zero_add] at h2 hs2 ⊢
    rw [mf_Program_start, mi_b, hs2]
    have := mt_c_b41 (N := N) (R := R) hs2 (by omega) (s - 1 - 1) n (Nat.le_refl _) (by omega)
    rw [show s - 1 - 1 - (s - 1 - 1) = 0 by omega, show n - (s - 1 - 1) = 2 + (n - s) by omega] at this
    exact this
  rw [mf_Coder_protocol]
  rcases hp with rfl | rfl | rfl
  · rw [if_pos (show nI (mq_cp 1) = (1 : Int32) from rfl), mt_gP, if_pos rfl]
    have := mt_c_b41 (N := N) (R := R) hs hl y n hy hn
    have e : mt_rs [(3, 0, 0, nL 12), (40, 2, 3, nL 2048)] (y - s) (n - s) = [(3, 0, 0, nL 12), (40, y - s, n - s, nL 2048)] := by
      simp [mt_rs, mt_jv]
    rw [e]
    exact this
  · rw [if_neg (show ¬ nI (mq_cp 2) = (1 : Int32) by decide), mf_Packet_protocolNumber, if_pos (show nI (mq_cp 2) = (2 : Int32) from rfl), mi_bs]
    exact two (by decide) 6 rfl
  · rw [if_neg (show ¬ nI (mq_cp 3) = (1 : Int32) by decide), mf_Packet_protocolNumber, if_neg (show ¬ nI (mq_cp 3) = (2 : Int32) by decide), mi_bs]
    exact two (by decide) 17 rfl
/-- .. where it goes on with the next -/
theorem mt_gP_0 (p dy dn : Nat) : mt_rs (mt_gP p 2) 0 dn = mt_rs (mt_gP p 0) dy dn := by
  unfold mt_gP
  split <;> simp [mt_rs, mt_jv]
theorem mt_c_proto0 {t : mw_T} {s : Nat} (hs : t.1 (16 + o) 4 = nI s) (hl : s ≤ 150) (p n dy : Nat) (hp : p = 1 ∨ p = 2 ∨ p = 3) (hn : s ≤ n) : mi_co o t s (mt_rs (mt_gP p 0) dy (n - s)) (mw_b (mf_Program_start N R o t) (fun v t' => mw_b (mf_Coder_protocol N R o (nI (mq_cp p)) v (nI n) t') (fun _ t'' => some (.inl (), t'')))) := by
  rw [mf_Program_start, mi_b, hs, mi_bid, ← mt_gP_0 p dy]
  have := mt_c_proto (N := N) (R := R) hs hl p s n hp (Nat.le_refl _) hn
  rw [Nat.sub_self] at this
  exact this
theorem mt_c_whole {t : mw_T} {s : Nat} (hs : t.1 (16 + o) 4 = nI s) (hl : s ≤ 150) (n dy : Nat) (hn : s ≤ n) : mi_co o t s (mt_rs mt_gW dy (n - s)) (mf_Coder_whole N R o (nI n) t) := by
  rw [mf_Coder_whole, mf_Program_start, mi_b, hs]
  have e : mt_rs mt_gW dy (n - s) = [(3, 0, 0, nL 20)] ++ [(43, n - s, s - s, nL 8191)] := by
    simp [mt_gW, mt_rs, mt_jv]
  rw [e]
  refine mi_co_b (mi_co_tst N R o hs hl 43 (nL 8191) (by omega) n s hn (Nat.le_refl _)) (fun T h1 hs1 he1 => ?_)
  rw [mi_bid]
  exact mt_c_field hs1 (by omega) 20 2 (by omega)
/-- an end: the load is a field, or one at X -/
theorem mt_c_end {t : mw_T} {s : Nat} (hs : t.1 (16 + o) 4 = nI s) (hl : s ≤ 150) (i k n m p y f : Nat) (hi : i < 160) (hk : k = 10 ∨ k = 11 ∨ k = 12) (hp : p < 1000) (h9 : t.1 (9 + o) i = nI (mt_ck k)) (h14 : t.2.1 (14 + o) i = nL n) (h15 : t.2.1 (15 + o) i = mq_nm k m) (hy : s ≤ y) (hf : s ≤ f) :
    mi_co o t s (([(if k = 12 then 6 else 4, 0, 0, nL p)] ++ (if k = 11 then [(26, 0, 0, mq_nm k m)] else [])) ++ [(40, y - s, f - s, nL n &&& mq_nm k m)]) (mf_Coder_end N R o (nI i) (nI p) (nI y) (nI f) t) := by
  have hin : mj_in (nI i) 160 = true := mi_inT (by omega) hi
  rw [mf_Coder_end, if_pos hin, if_pos hin, mi_tn (by omega), h14, h15]
  refine mi_co_b (mi_co_tst N R o hs hl 40 _ (by omega) y f hy hf) (fun T h1 hs1 he1 => ?_)
  have b63 : ∀ (U : mw_T) (s' : Nat), mt_eqC o t U → U.1 (16 + o) 4 = nI s' → s' ≤ 150 → mi_co o U s' [(if k = 12 then 6 else 4, 0, 0, nL p)] (mf_Coder_end_b63 N R o (nI i) (nI p) U) := by
    intro U s' he hs' hl'
    rw [mf_Coder_end_b63, if_pos hin, mi_tn (by omega), (he 9 (by omega) (by omega)).1, h9]
    rcases hk with rfl | rfl | rfl
    · rw [if_neg (show ¬ nI (mt_ck 10) = (8 : Int32) by decide), mi_bid, mi_IL (by omega), if_neg (by decide)]
      exact mt_c_field hs' hl' p 4 (by omega)
    · rw [if_neg (show ¬ nI (mt_ck 11) = (8 : Int32) by decide), mi_bid, mi_IL (by omega), if_neg (by decide)]
      exact mt_c_field hs' hl' p 4 (by omega)
    · rw [if_pos (show nI (mt_ck 12) = (8 : Int32) from rfl), mi_bid, mf_Coder_fieldAtX, mi_bid, mi_IL (by omega), if_pos rfl]
      exact mi_co_pre N R o hs' hl' 6 _ (by omega)
  rw [if_pos hin, (he1 9 (by omega) (by omega)).1, h9]
  rcases hk with rfl | rfl | rfl
  · rw [if_neg (show ¬ nI (mt_ck 10) = (7 : Int32) by decide)]
    exact b63 T _ he1 hs1 (by omega)
  · rw [if_pos (show nI (mt_ck 11) = (7 : Int32) from rfl), if_pos hin, (he1 15 (by omega) (by omega)).2, h15]
    refine mi_co_b (mi_co_pre N R o hs1 (by omega) 26 _ (by omega)) (fun T2 h2 hs2 he2 => ?_)
    exact b63 T2 _ (mt_eqC_tr he1 he2) hs2 (by omega)
  · rw [if_neg (show ¬ nI (mt_ck 12) = (7 : Int32) by decide)]
    exact b63 T _ he1 hs1 (by omega)
theorem mt_gE_rs (k ld p jn : Nat) (w m : Int64) (dy dn : Nat) : mt_rs (mt_gE k ld p jn w m) dy dn = ([(ld, 0, 0, nL p)] ++ (if k = 11 then [(26, 0, 0, m)] else [])) ++ [(40, dy, mt_jv jn 0 dy dn, w &&& m)] := by
  rw [mt_gE, mt_rs_app]
  congr 1
  · rw [mt_rs_pl]
    refine mt_pl_app (mt_pl_one _ _) ?_
    split
    · exact mt_pl_one _ _
    · intro z hz; cases hz
  · simp [mt_rs, mt_jv]
theorem mt_c_ends {t : mw_T} {s : Nat} (hs : t.1 (16 + o) 4 = nI s) (hl : s ≤ 150) (i k e n m p q y f : Nat) (hi : i < 160) (hk : k = 10 ∨ k = 11 ∨ k = 12) (he : e = 1 ∨ e = 2 ∨ e = 3) (hp : p < 1000) (hq : q < 1000) (h9 : t.1 (9 + o) i = nI (mt_ck k)) (h10 : t.1 (10 + o) i = nI (mq_ce e)) (h14 : t.2.1 (14 + o) i = nL n) (h15 : t.2.1 (15 + o) i = mq_nm k m) (hy : s ≤ y) (hf : s ≤ f) :
    mi_co o t s (mt_rs (mt_gEs k (if k = 12 then 6 else 4) p q e (nL n) (mq_nm k m)) (y - s) (f - s)) (mf_Coder_ends N R o (nI i) (nI p) (nI q) (nI y) (nI f) t) := by
  have hin : mj_in (nI i) 160 = true := mi_inT (by omega) hi
  rw [mf_Coder_ends, if_pos hin, mi_tn (by omega), h10, mt_gEs]
  rcases he with rfl | rfl | rfl
  · rw [if_pos (show nI (mq_ce 1) = (1 : Int32) from rfl), mf_Coder_ends_b36, if_pos hin, mi_tn (by omega), h10, if_neg (show ¬ nI (mq_ce 1) = (2 : Int32) by decide), mi_bid, if_pos rfl, mt_gE_rs]
    have := mt_c_end (N := N) (R := R) hs hl i k n m p y f hi hk hp h9 h14 h15 hy hf
    rw [show mt_jv 3 0 (y - s) (f - s) = f - s by simp [mt_jv]]
    exact this
  · rw [if_neg (show ¬ nI (mq_ce 2) = (1 : Int32) by decide), if_neg (by decide), if_pos rfl, mt_gE_rs, show mt_jv 3 0 (y - s) (f - s) = f - s by simp [mt_jv]]
    have h1 := mt_c_end (N := N) (R := R) hs hl i k n m q y f hi hk hq h9 h14 h15 hy hf
    have h2 : mi_co o t s ([] ++ (([(if k = 12 then 6 else 4, 0, 0, nL q)] ++ (if k = 11 then [(26, 0, 0, mq_nm k m)] else [])) ++ [(40, y - s, f - s, nL n &&& mq_nm k m)])) (mw_b (mf_Coder_end N R o (nI i) (nI q) (nI y) (nI f) t) (fun _ t1 => (mw_b (mf_Program_start N R o t1) (fun v2 t2 => (mf_Coder_ends_b36 N R o (nI i) (nI p) (nI y) v2 t2))))) := by
      refine mi_co_b h1 (fun T g1 hs1 he1 => ?_)
      rw [mf_Program_start, mi_b, mf_Coder_ends_b36, if_pos hin, mi_tn (by omega), (he1 10 (by omega) (by omega)).1, h10, if_pos (show nI (mq_ce 2) = (2 : Int32) from rfl)]
      exact mi_co_0 hs1
    rw [List.nil_append] at h2
    exact h2
  · rw [if_neg (show ¬ nI (mq_ce 3) = (1 : Int32) by decide), if_neg (by decide), if_neg (by decide), mt_rs_app, mt_gE_rs k _ q, show mt_jv 3 0 (y - s) (f - s) = f - s by simp [mt_jv]]
    have h1 := mt_c_end (N := N) (R := R) hs hl i k n m q y f hi hk hq h9 h14 h15 hy hf
    have hlen : (mt_gE k (if k = 12 then 6 else 4) q 3 (nL n) (mq_nm k m)).length = (([(if k = 12 then 6 else 4, 0, 0, nL q)] ++ (if k = 11 then [(26, 0, 0, mq_nm k m)] else [])) ++ [(40, y - s, f - s, nL n &&& mq_nm k m)] : mi_P).length := by
      rw [mt_gE]; simp only [List.length_append, List.length_cons, List.length_nil]
    refine mi_co_b h1 (fun T g1 hs1 he1 => ?_)
    rw [← hlen] at g1 hs1 ⊢
    rw [mf_Program_start, mi_b, hs1, mf_Coder_ends_b36, if_pos hin, mi_tn (by omega), (he1 10 (by omega) (by omega)).1, h10, if_neg (show ¬ nI (mq_ce 3) = (2 : Int32) by decide), mi_bid, mt_gE_rs]
    have h2 := mt_c_end (N := N) (R := R) hs1 (by omega) i k n m p y (s - (mt_gE k (if k = 12 then 6 else 4) q 3 (nL n) (mq_nm k m)).length) hi hk hp (by rw [(he1 9 (by omega) (by omega)).1]; exact h9) (by rw [(he1 14 (by omega) (by omega)).2]; exact h14) (by rw [(he1 15 (by omega) (by omega)).2]; exact h15) (by omega) (Nat.le_refl _)
    rw [Nat.sub_self, show y - (s - (mt_gE k (if k = 12 then 6 else 4) q 3 (nL n) (mq_nm k m)).length) = y - s + (mt_gE k (if k = 12 then 6 else 4) q 3 (nL n) (mq_nm k m)).length by omega] at h2
    rw [show ∀ x z, mt_jv 0 0 x z = 0 from fun _ _ => by simp [mt_jv]]
    exact h2
end
