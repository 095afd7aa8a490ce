/-! .. the law's calls of run and instruction -/
def mi_fr (A : List (Nat × Nat)) (o : Nat) (B : List (Nat × Nat)) (t T : mw_T) : Prop := ∀ q i, ¬ mw_ws A o B q i → T.1 q i = t.1 q i ∧ T.2.1 q i = t.2.1 q i
theorem mi_fr_tr {A B A' B' A'' B'' : List (Nat × Nat)} {o o' o'' : Nat} {t u T : mw_T} (h : mi_fr A o B t u) (g : mi_fr A' o' B' u T) (h1 : mw_lq A o B A'' o'' B'') (h2 : mw_lq A' o' B' A'' o'' B'') : mi_fr A'' o'' B'' t T := by
  intro q i hq
  obtain ⟨a1, a2⟩ := h q i (fun w => hq (h1 q i w))
  obtain ⟨b1, b2⟩ := g q i (fun w => hq (h2 q i w))
  exact ⟨b1.trans a1, b2.trans a2⟩
theorem mi_fr_F {A B : List (Nat × Nat)} {o : Nat} {α : Type} {t T : mw_T} {r : mw_X α} {v : α ⊕ Nat} (hF : mw_F A o B t r) (e : r = some (v, T)) : mi_fr A o B t T := (hF v T e).1
theorem mi_fr_we (A : List (Nat × Nat)) (o : Nat) (B : List (Nat × Nat)) (t : mw_T) : mi_fr A o B t (mw_we t) := fun _ _ _ => ⟨rfl, rfl⟩
/-- a try around a call of the class, its answer put into out -/
theorem mi_frt {A B : List (Nat × Nat)} {o : Nat} {t t1 : mw_T} {r : mw_X Int32} {v : Int32 ⊕ Nat} {h : Nat → mw_T → mw_X Int32} (hF : mw_F A o B t r) (hh : ∀ q T z T', h q T = some (z, T') → T' = T)
    (e : mw_t r (fun v1 t1 => (if mj_in (0 : Int32) 1 = true then (some (.inl (0 : Int32), (mw_wl t1 85 (0 : Int32).toNatClampNeg v1.toInt64))) else none)) h = some (v, t1)) : mi_fr A o ((85, 1000) :: B) t t1 ∧ t1.2.2 ≤ t.2.2 + 1 := by
  unfold mw_t at e
  split at e
  · rename_i v1 T
    obtain ⟨h1, h2⟩ := hF _ _ rfl
    replace e : some (Sum.inl (0 : Int32), mw_wl T 85 (0 : Int32).toNatClampNeg v1.toInt64) = some (v, t1) := e
    cases e
    refine ⟨fun q i hq => ?_, ?_⟩
    · have hw : ¬ mw_ws A o B q i := fun w => hq (w.imp id (fun ⟨x, hx, e⟩ => ⟨x, List.mem_cons_of_mem _ hx, e⟩))
      obtain ⟨a1, a2⟩ := h1 q i hw
      refine ⟨a1, ?_⟩
      rw [← a2]
      exact mw_up_ne (fun hc => hq (Or.inr ⟨_, List.mem_cons_self, hc.1, Or.inl rfl⟩))
    · show T.2.2 ≤ t.2.2 + 1
      rw [h2]; exact Nat.le_succ _
  · rename_i q T
    obtain ⟨h1, h2⟩ := hF _ _ rfl
    have := hh _ _ _ _ e
    subst this
    refine ⟨fun q i hq => h1 q i (fun w => hq (w.imp id (fun ⟨x, hx, e⟩ => ⟨x, List.mem_cons_of_mem _ hx, e⟩))), ?_⟩
    rw [h2]; exact Nat.le_refl _
  · cases e
theorem mi_ag_fr {S A B : List (Nat × Nat)} {o : Nat} {t T : mw_T} (ho : o = 0 ∨ o = 21) (hd : mi_dj S A B = true) (h : mi_fr A o B t T) : mi_ag S t T := mi_ag_of ho hd h
theorem mi_PrgM_ag {P : mi_P} {t T : mw_T} (h : mi_ag [(49, 36), (76, 1000), (77, 1000), (78, 1000), (79, 1000)] t T) (hp : mi_PrgM P t) : mi_PrgM P T :=
  mi_PrgM_eq (mi_agI h (by simp) 36 (Or.inr rfl)) (fun i => mi_agI h (r := 76) (f := 1000) (by simp) i (Or.inl rfl)) (fun i => mi_agI h (r := 77) (f := 1000) (by simp) i (Or.inl rfl)) (fun i => mi_agI h (r := 78) (f := 1000) (by simp) i (Or.inl rfl)) (fun i => mi_agL h (r := 79) (f := 1000) (by simp) i (Or.inl rfl)) hp
theorem ml_run (N R o : Nat) (ho : o = 0 ∨ o = 21) (hN : 170 ≤ N) {P : mi_P} {t : mw_T} (hk : mi_Pkt t) (hp : mi_Prg P o t) : ∃ v t1 b t2, mf_Law_run N R o t = some (.inl v, t1) ∧ mf_Model_run N R t1 = some (.inl b, t2) ∧ mf_Model_thrown N R t2 = some (.inl v, t2) ∧ (v = 0 → t2.2.1 85 0 = b.toInt64) ∧ (P ≠ [] → mi_Mac t2) ∧ (P = [] → mi_Mac t → mi_Mac t2) := by
  obtain ⟨n, hk⟩ := hk
  obtain ⟨pk, hk⟩ := mi_PktW_of hk
  obtain ⟨h1, h2, h3, h4, h5⟩ := hp
  have hl := h1.1
  by_cases hE : P = []
  · subst hE
    refine ⟨1, mw_we t, 0, mw_wi (mw_wi (mw_we t) 49 0 0) 49 0 1, ?_, ?_, rfl, fun h => absurd h (by decide), fun h => absurd rfl h, fun _ hm => hm⟩
    · rw [mf_Law_run, mf_Sieve_run, mf_Program_size, mi_b, if_pos (by rw [h2.1]; rfl), mi_tx]; rfl
    · rw [mf_Model_run, if_pos (show (mw_we t).1 49 25 < 0 from by rw [show (mw_we t).1 49 25 = -1 from h4 rfl]; decide), mf_Model_refuse, mi_b]
  · have hpos : 0 < P.length := List.length_pos_iff.mpr hE
    obtain ⟨r, hr1, hr2⟩ := h5 hE
    obtain ⟨⟨v, S', d'⟩, hrn⟩ := mi_rn_some (fl := mi_fld pk n) (len := n) h1 150 0 ((0 : Int64), (0 : Int64), fun _ => (0 : Int64)) 0 hpos (by omega)
    have hu : mi_uS ((0 : Int64), (0 : Int64), fun _ => (0 : Int64)) := ⟨mi_u_nL (n := 0) (by omega), mi_u_nL (n := 0) (by omega), fun _ _ => mi_u_nL (n := 0) (by omega)⟩
    -- the class
    have hT0 : mf_Machine_reset N R t = some (.inl (), mi_zero 6 16 0 (mw_wi (mw_wl (mw_wl t 5 2 (0 : Int64)) 5 3 (0 : Int64)) 5 4 (0 : Int32))) := by
      rw [mf_Machine_reset]
      have := mi_reset N R 16 0 (N - 17) (mw_wi (mw_wl (mw_wl t 5 2 (0 : Int64)) 5 3 (0 : Int64)) 5 4 (0 : Int32)) (by omega)
      rw [show 16 + 1 + (N - 17) = N by omega] at this
      exact this
    have hpk1 : mi_PktW pk n (mi_zero 6 16 0 (mw_wi (mw_wl (mw_wl t 5 2 (0 : Int64)) 5 3 (0 : Int64)) 5 4 (0 : Int32))) := by
      obtain ⟨q1, q2, q3, q4⟩ := hk
      exact ⟨q1, by rw [mi_zero1]; exact q2, by rw [mi_zero1]; exact q3, fun j hj => by rw [mi_zero1]; exact q4 j hj⟩
    have hpr1 : mi_PrgC P o (mi_zero 6 16 0 (mw_wi (mw_wl (mw_wl t 5 2 (0 : Int64)) 5 3 (0 : Int64)) 5 4 (0 : Int32))) := by
      refine mi_PrgC_rows (t := t) (fun q i hq => ⟨?_, ?_⟩) h2
      · rw [mi_zero1, mi_wi, if_neg (by omega)]; rfl
      · rw [mi_zeroL, if_neg (by omega), mi_wi2, mi_wl, if_neg (by omega), mi_wl, if_neg (by omega)]
    have hst1 : mi_stC ((0 : Int64), (0 : Int64), fun _ => (0 : Int64)) 0 (mi_zero 6 16 0 (mw_wi (mw_wl (mw_wl t 5 2 (0 : Int64)) 5 3 (0 : Int64)) 5 4 (0 : Int32))) := by
      refine ⟨?_, ?_, fun j hj => ?_, ?_⟩
      · rw [mi_zeroL, if_neg (by omega)]; rfl
      · rw [mi_zeroL, if_neg (by omega)]; rfl
      · rw [mi_zeroL, if_pos (by omega)]
      · rw [mi_zero1]; rfl
    obtain ⟨T, hT1, hT2⟩ := mi_exec N R o (by omega) h1 150 0 0 _ 0 (N - 150) _ v S' d' hpk1 hpr1 hst1 hu (Nat.le_refl _) hpos hrn
    rw [show 150 + (N - 150) = N by omega] at hT1
    have hex : mf_Machine_execute N R o t = some (.inl v, T) := by rw [mf_Machine_execute, hT0, mi_b]; exact hT1
    have hsr : mf_Sieve_run N R o t = some (.inl v, T) := by
      rw [mf_Sieve_run, mf_Program_size, mi_b, if_neg, hex, mi_b]
      rw [h2.1, show (150 : Int32) = nI 150 from rfl, mi_sub (by omega)]
      exact mi_neT (b := 0) (by omega) (by omega) (by omega)
    have hlr : mf_Law_run N R o t = some (.inl 0, mw_wl T 85 0 v.toInt64) := by rw [mf_Law_run, hsr, mi_t]; rfl
    -- what the class left alone
    have fr1 := mi_fr_F (mg_Sieve_run N R o t) hsr
    have ag1 : ∀ {S : List (Nat × Nat)}, mi_dj S [] [(5, 2), (5, 3), (5, 4), (6, 1000), (85, 1000)] = true → mi_ag S t (mw_wl T 85 0 v.toInt64) := by
      intro S hd
      have fr2 := (mi_frt (mg_Sieve_run N R o t) (h := fun q t1 => (if q = 1 then (some (.inl (1 : Int32), t1)) else none)) (fun q T z T' e => by
        split at e
        · cases e; rfl
        · cases e) (by rw [← hlr]; rfl)).1
      exact mi_ag_of ho hd (fun q i hq => fr2 q i (fun w => hq (mw_lq0 (A := []) (o := o) (o' := o) (by decide) q i w)))
    have hpk2 : mi_PktW pk n (mw_wl T 85 0 v.toInt64) := mi_PktW_ag (ag1 (by decide)) hk
    have hpm2 : mi_PrgM P (mw_wl T 85 0 v.toInt64) := mi_PrgM_ag (ag1 (by decide)) h3
    have hrt : (mw_wl T 85 0 v.toInt64).1 49 25 = nI r := (mi_agI (ag1 (S := [(49, 25)]) (by decide)) (by simp) 25 (Or.inr rfl)).trans hr2
    generalize hT' : mw_wl T 85 0 v.toInt64 = t1 at *
    -- the reference
    obtain ⟨T2, hM1, hM2, hM3⟩ := mi_mexec N R (by omega) h1 150 0 _ 0 (N - 151) (mw_wi (mw_wi (mi_zero 84 16 0 (mw_wl (mw_wl (mw_wi t1 49 0 (0 : Int32)) 49 54 (0 : Int64)) 49 55 (0 : Int64))) 49 53 (0 : Int32)) 49 51 (0 : Int32)) v S' d' (by
        obtain ⟨q1, q2, q3, q4⟩ := hpk2
        exact ⟨q1, by rw [mi_wi, if_neg (by decide), mi_wi, if_neg (by decide), mi_zero1]; exact q2, by rw [mi_wi, if_pos rfl, if_neg (by decide), mi_wi, if_pos rfl, if_neg (by decide), mi_zero1]; exact q3, fun j hj => by rw [mi_wi, if_neg (by decide), mi_wi, if_neg (by decide), mi_zero1, mi_wi, if_neg (by decide), mi_wi, if_neg (by decide), mi_zero1]; exact q4 j hj⟩)
      (by
        refine mi_PrgM_eq (t := t1) ?_ (fun i => ?_) (fun i => ?_) (fun i => ?_) (fun i => ?_) hpm2
        · rw [mi_wi, if_pos rfl, if_neg (by decide), mi_wi, if_pos rfl, if_neg (by decide), mi_zero1]; rfl
        · rw [mi_wi, if_neg (by decide), mi_wi, if_neg (by decide), mi_zero1]; rfl
        · rw [mi_wi, if_neg (by decide), mi_wi, if_neg (by decide), mi_zero1]; rfl
        · rw [mi_wi, if_neg (by decide), mi_wi, if_neg (by decide), mi_zero1]; rfl
        · rw [mi_wi2, mi_wi2, mi_zeroL, if_neg (by omega)]; rfl)
      (by
        refine ⟨?_, ?_, fun j hj => ?_, ?_⟩
        · rw [mi_wi2, mi_wi2, mi_zeroL, if_neg (by omega)]; rfl
        · rw [mi_wi2, mi_wi2, mi_zeroL, if_neg (by omega)]; rfl
        · rw [mi_wi2, mi_wi2, mi_zeroL, if_pos (by omega)]
        · rw [mi_wi, if_pos rfl, if_pos rfl]; rfl)
      (by rw [mi_wi, if_pos rfl, if_neg (by decide), mi_wi, if_pos rfl, if_pos rfl]) hu hpos hrn
    rw [show 150 + 1 + (N - 151) = N by omega] at hM1
    have hmr : mf_Model_run N R t1 = some (.inl v, T2) := by
      rw [mf_Model_run, if_neg (by rw [hrt]; exact mi_lt0 r (by omega))]
      have := mi_mreset N R 16 0 (N - 17) (mw_wl (mw_wl (mw_wi t1 49 0 (0 : Int32)) 49 54 (0 : Int64)) 49 55 (0 : Int64)) (by omega)
      rw [show 16 + 1 + (N - 17) = N by omega] at this
      exact this.trans hM1
    have ag2 : ∀ {S : List (Nat × Nat)}, mi_dj S [] [(49, 0), (49, 51), (49, 53), (49, 54), (49, 55), (84, 1000)] = true → mi_ag S t1 T2 := fun hd => mi_agF (o := 0) (Or.inl rfl) (mg_Model_run N R t1) hmr hd
    have h49 : T2.1 49 0 = 0 := by
      rw [hM3, mi_wi, if_pos rfl, if_neg (by decide), mi_wi, if_pos rfl, if_neg (by decide), mi_zero1]; rfl
    refine ⟨0, t1, v, T2, hlr, hmr, by rw [mf_Model_thrown, h49], fun _ => ?_, fun _ => ?_, fun h => absurd h hE⟩
    · rw [mi_agL (ag2 (S := [(85, 1000)]) (by decide)) (by simp) 0 (Or.inl rfl), ← hT', mi_wl, if_pos rfl, if_pos rfl]
    · have ag3 := ag2 (S := [(5, 2), (5, 3), (5, 4), (6, 1000)]) (by decide)
      obtain ⟨c1, c2, c3, c4⟩ := hT2
      obtain ⟨m1, m2, m3, m4⟩ := hM2
      refine ⟨?_, ?_, ?_, fun i hi => ?_⟩
      · rw [mi_agI ag3 (r := 5) (f := 4) (by simp) 4 (Or.inr rfl), m4, ← hT']; exact c4
      · rw [mi_agL ag3 (r := 5) (f := 2) (by simp) 2 (Or.inr rfl), m1, ← hT']; exact c1
      · rw [mi_agL ag3 (r := 5) (f := 3) (by simp) 3 (Or.inr rfl), m2, ← hT']; exact c2
      · rw [mi_agL ag3 (r := 6) (f := 1000) (by simp) i (Or.inl rfl), m3 i hi, ← hT']; exact c3 i hi
theorem ml_instr (N R o : Nat) (x y : Int32) {P : mi_P} {t : mw_T} (hp : mi_Prg P o t) : ∃ v t1 t2, mf_Sieve_instruction N R o x y t = some (.inl v, t1) ∧ mf_Model_instruction N R x y t1 = some (.inl v, t2) := by
  obtain ⟨h1, h2, h3, -, -⟩ := hp
  have hl := h1.1
  have hsz : (150 : Int32) - (t.1 (16 + o) 4) = nI P.length := by
    rw [h2.1, show (150 : Int32) = nI 150 from rfl, mi_sub (by omega)]; congr 1; omega
  by_cases c1 : x < 0
  · exact ⟨-1, t, mw_wi t 49 0 0, by rw [mf_Sieve_instruction, if_pos c1], by rw [mf_Model_instruction, if_pos c1]⟩
  obtain ⟨k, hk, rfl⟩ := mi_pos c1
  by_cases c2 : k < P.length
  · obtain ⟨z, hz⟩ : ∃ z, P[k]? = some z := ⟨_, List.getElem?_eq_getElem c2⟩
    obtain ⟨p1, p2, p3⟩ := mi_pget hl c2 h2
    obtain ⟨r1, r2, r3, r4⟩ := h2.2 k z hz
    obtain ⟨m1, m2, m3, m4⟩ := h3.2 k z hz
    have hin : mj_in (nI k) 150 = true := mi_inT (by omega) (by omega)
    by_cases y0 : y = 0
    · refine ⟨nI z.1, t, mw_wi t 49 0 0, ?_, ?_⟩
      · rw [mf_Sieve_instruction, if_neg c1, mf_Program_size, mi_b, hsz, if_pos (mi_ltT (by omega) c2), if_pos y0, mf_Program_operation, p1, if_pos p2, p3, r1, mi_b]
      · rw [mf_Model_instruction, if_neg c1, h3.1, if_pos (mi_ltT (by omega) c2), if_pos y0, if_pos hin, mi_tn hk, m1]
    by_cases y1 : y = 1
    · refine ⟨nI z.2.1, t, mw_wi t 49 0 0, ?_, ?_⟩
      · rw [mf_Sieve_instruction, if_neg c1, mf_Program_size, mi_b, hsz, if_pos (mi_ltT (by omega) c2), if_neg y0, if_pos y1, mf_Program_wayIfSo, p1, if_pos p2, p3, r2, mi_b]
      · rw [mf_Model_instruction, if_neg c1, h3.1, if_pos (mi_ltT (by omega) c2), if_neg y0, if_pos y1, if_pos hin, mi_tn hk, m2]
    by_cases y2 : y = 2
    · refine ⟨nI z.2.2.1, t, mw_wi t 49 0 0, ?_, ?_⟩
      · rw [mf_Sieve_instruction, if_neg c1, mf_Program_size, mi_b, hsz, if_pos (mi_ltT (by omega) c2), if_neg y0, if_neg y1, if_pos y2, mf_Program_wayIfNot, p1, if_pos p2, p3, r3, mi_b]
      · rw [mf_Model_instruction, if_neg c1, h3.1, if_pos (mi_ltT (by omega) c2), if_neg y0, if_neg y1, if_pos y2, if_pos hin, mi_tn hk, m3]
    by_cases y3 : y = 3
    · refine ⟨z.2.2.2.toInt32, t, mw_wi t 49 0 0, ?_, ?_⟩
      · rw [mf_Sieve_instruction, if_neg c1, mf_Program_size, mi_b, hsz, if_pos (mi_ltT (by omega) c2), if_neg y0, if_neg y1, if_neg y2, if_pos y3, mf_Program_number, p1, if_pos p2, p3, r4, mi_b]
      · rw [mf_Model_instruction, if_neg c1, h3.1, if_pos (mi_ltT (by omega) c2), if_neg y0, if_neg y1, if_neg y2, if_pos y3, if_pos hin, mi_tn hk, m4]
    · refine ⟨-1, t, mw_wi t 49 0 0, ?_, ?_⟩
      · rw [mf_Sieve_instruction, if_neg c1, mf_Program_size, mi_b, hsz, if_pos (mi_ltT (by omega) c2), if_neg y0, if_neg y1, if_neg y2, if_neg y3]
      · rw [mf_Model_instruction, if_neg c1, h3.1, if_pos (mi_ltT (by omega) c2), if_neg y0, if_neg y1, if_neg y2, if_neg y3]
  · refine ⟨-1, t, mw_wi t 49 0 0, ?_, ?_⟩
    · rw [mf_Sieve_instruction, if_neg c1, mf_Program_size, mi_b, hsz, if_neg (mi_ltF hk (by omega))]
    · rw [mf_Model_instruction, if_neg c1, h3.1, if_neg (mi_ltF hk (by omega))]
