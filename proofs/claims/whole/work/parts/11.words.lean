theorem mj_t1 {w : Cond} {i : Nat} (h0 : tables_1_1[i]? = some w) (hg : goodWord w = true) : w ∈ mj_GT := by
  have h := List.mem_of_getElem? h0
  exact List.mem_filter.mpr ⟨List.mem_append_right _ (show w ∈ tables_1 from List.mem_append_left _ h), hg⟩
theorem mj_t2 {w : Cond} {i : Nat} (h0 : tables_1_2[i]? = some w) (hg : goodWord w = true) : w ∈ mj_GT := by
  have h := List.mem_of_getElem? h0
  exact List.mem_filter.mpr ⟨List.mem_append_right _ (show w ∈ tables_1 from List.mem_append_right _ (List.mem_append_left _ h)), hg⟩
theorem mj_t3 {w : Cond} {i : Nat} (h0 : tables_1_3[i]? = some w) (hg : goodWord w = true) : w ∈ mj_GT := by
  have h := List.mem_of_getElem? h0
  exact List.mem_filter.mpr ⟨List.mem_append_right _ (show w ∈ tables_1 from List.mem_append_right _ (List.mem_append_right _ (List.mem_append_left _ h))), hg⟩
theorem mj_t4 {w : Cond} {i : Nat} (h0 : tables_1_4[i]? = some w) (hg : goodWord w = true) : w ∈ mj_GT := by
  have h := List.mem_of_getElem? h0
  exact List.mem_filter.mpr ⟨List.mem_append_right _ (show w ∈ tables_1 from List.mem_append_right _ (List.mem_append_right _ (List.mem_append_right _ (List.mem_append_left _ h)))), hg⟩
theorem mj_t5 {w : Cond} {i : Nat} (h0 : tables_1_5[i]? = some w) (hg : goodWord w = true) : w ∈ mj_GT := by
  have h := List.mem_of_getElem? h0
  exact List.mem_filter.mpr ⟨List.mem_append_right _ (show w ∈ tables_1 from List.mem_append_right _ (List.mem_append_right _ (List.mem_append_right _ (List.mem_append_right _ (List.mem_append_left _ h))))), hg⟩
theorem mj_t6 {w : Cond} {i : Nat} (h0 : tables_1_6[i]? = some w) (hg : goodWord w = true) : w ∈ mj_GT := by
  have h := List.mem_of_getElem? h0
  exact List.mem_filter.mpr ⟨List.mem_append_right _ (show w ∈ tables_1 from List.mem_append_right _ (List.mem_append_right _ (List.mem_append_right _ (List.mem_append_right _ (List.mem_append_right _ (List.mem_append_left _ h)))))), hg⟩
theorem mj_t7 {w : Cond} {i : Nat} (h0 : tables_1_7[i]? = some w) (hg : goodWord w = true) : w ∈ mj_GT := by
  have h := List.mem_of_getElem? h0
  exact List.mem_filter.mpr ⟨List.mem_append_right _ (show w ∈ tables_1 from List.mem_append_right _ (List.mem_append_right _ (List.mem_append_right _ (List.mem_append_right _ (List.mem_append_right _ (List.mem_append_right _ (h))))))), hg⟩
theorem mj_sel1 {q : MethodName × Nat} {i : Nat} (h0 : lw_privs_1[i]? = some q) : Cond.selects q.1.cls q.1 q.1 ∈ mj_GT := by
  have h := List.mem_of_getElem? h0
  exact List.mem_filter.mpr ⟨List.mem_append_left _ (List.mem_map.mpr ⟨q, (show q ∈ lw_privs from List.mem_append_left _ h), rfl⟩), rfl⟩
theorem mj_sel2 {q : MethodName × Nat} {i : Nat} (h0 : lw_privs_2[i]? = some q) : Cond.selects q.1.cls q.1 q.1 ∈ mj_GT := by
  have h := List.mem_of_getElem? h0
  exact List.mem_filter.mpr ⟨List.mem_append_left _ (List.mem_map.mpr ⟨q, (show q ∈ lw_privs from List.mem_append_right _ (List.mem_append_left _ h)), rfl⟩), rfl⟩
theorem mj_sel3 {q : MethodName × Nat} {i : Nat} (h0 : lw_privs_3[i]? = some q) : Cond.selects q.1.cls q.1 q.1 ∈ mj_GT := by
  have h := List.mem_of_getElem? h0
  exact List.mem_filter.mpr ⟨List.mem_append_left _ (List.mem_map.mpr ⟨q, (show q ∈ lw_privs from List.mem_append_right _ (List.mem_append_right _ (List.mem_append_left _ h))), rfl⟩), rfl⟩
theorem mj_sel4 {q : MethodName × Nat} {i : Nat} (h0 : lw_privs_4[i]? = some q) : Cond.selects q.1.cls q.1 q.1 ∈ mj_GT := by
  have h := List.mem_of_getElem? h0
  exact List.mem_filter.mpr ⟨List.mem_append_left _ (List.mem_map.mpr ⟨q, (show q ∈ lw_privs from List.mem_append_right _ (List.mem_append_right _ (List.mem_append_right _ (List.mem_append_left _ h)))), rfl⟩), rfl⟩
theorem mj_sel5 {q : MethodName × Nat} {i : Nat} (h0 : lw_privs_5[i]? = some q) : Cond.selects q.1.cls q.1 q.1 ∈ mj_GT := by
  have h := List.mem_of_getElem? h0
  exact List.mem_filter.mpr ⟨List.mem_append_left _ (List.mem_map.mpr ⟨q, (show q ∈ lw_privs from List.mem_append_right _ (List.mem_append_right _ (List.mem_append_right _ (List.mem_append_right _ (List.mem_append_left _ h))))), rfl⟩), rfl⟩
theorem mj_sel6 {q : MethodName × Nat} {i : Nat} (h0 : lw_privs_6[i]? = some q) : Cond.selects q.1.cls q.1 q.1 ∈ mj_GT := by
  have h := List.mem_of_getElem? h0
  exact List.mem_filter.mpr ⟨List.mem_append_left _ (List.mem_map.mpr ⟨q, (show q ∈ lw_privs from List.mem_append_right _ (List.mem_append_right _ (List.mem_append_right _ (List.mem_append_right _ (List.mem_append_right _ (List.mem_append_left _ h)))))), rfl⟩), rfl⟩
theorem mj_sel7 {q : MethodName × Nat} {i : Nat} (h0 : lw_privs_7[i]? = some q) : Cond.selects q.1.cls q.1 q.1 ∈ mj_GT := by
  have h := List.mem_of_getElem? h0
  exact List.mem_filter.mpr ⟨List.mem_append_left _ (List.mem_map.mpr ⟨q, (show q ∈ lw_privs from List.mem_append_right _ (List.mem_append_right _ (List.mem_append_right _ (List.mem_append_right _ (List.mem_append_right _ (List.mem_append_right _ (h))))))), rfl⟩), rfl⟩
set_option maxRecDepth 20000 in
theorem mj_in_Sieve : Cond.initialized "PacketSieve" ∈ mj_GT := mj_t1 (i := 1) rfl rfl
set_option maxRecDepth 20000 in
theorem mj_in_Coder : Cond.initialized "PacketSieve$Coder" ∈ mj_GT := mj_t1 (i := 11) rfl rfl
set_option maxRecDepth 20000 in
theorem mj_in_Filter : Cond.initialized "PacketSieve$Filter" ∈ mj_GT := mj_t1 (i := 6) rfl rfl
set_option maxRecDepth 20000 in
theorem mj_in_Judge : Cond.initialized "PacketSieve$Judge" ∈ mj_GT := mj_t1 (i := 12) rfl rfl
set_option maxRecDepth 20000 in
theorem mj_in_Machine : Cond.initialized "PacketSieve$Machine" ∈ mj_GT := mj_t1 (i := 5) rfl rfl
set_option maxRecDepth 20000 in
theorem mj_in_Packet : Cond.initialized "PacketSieve$Packet" ∈ mj_GT := mj_t1 (i := 4) rfl rfl
set_option maxRecDepth 20000 in
theorem mj_in_Parser : Cond.initialized "PacketSieve$Parser" ∈ mj_GT := mj_t1 (i := 9) rfl rfl
set_option maxRecDepth 20000 in
theorem mj_in_Program : Cond.initialized "PacketSieve$Program" ∈ mj_GT := mj_t1 (i := 8) rfl rfl
set_option maxRecDepth 20000 in
theorem mj_in_Text : Cond.initialized "PacketSieve$Text" ∈ mj_GT := mj_t1 (i := 3) rfl rfl
set_option maxRecDepth 20000 in
theorem mj_in_Tokens : Cond.initialized "PacketSieve$Tokens" ∈ mj_GT := mj_t1 (i := 10) rfl rfl
set_option maxRecDepth 20000 in
theorem mj_in_Tree : Cond.initialized "PacketSieve$Tree" ∈ mj_GT := mj_t1 (i := 7) rfl rfl
set_option maxRecDepth 20000 in
theorem mj_in_Law : Cond.initialized "PacketSieveLaw" ∈ mj_GT := mj_t1 (i := 0) rfl rfl
set_option maxRecDepth 20000 in
theorem mj_in_Model : Cond.initialized "PacketSieveModel" ∈ mj_GT := mj_t1 (i := 13) rfl rfl
/-- what the tables say of a method -/
def mj_Q (k : Nat) (X : mj_X) : Prop := X.2.2.1 ≤ 40 ∧ X.1.cls = mj_cn X.2.2.2.2.1 ∧ plainName X.1.cls = true ∧ ((mj_mw k).1 = 9 ∨ (Cond.initialized X.1.cls ∈ mj_GT ∧
  (((mj_mw k).1 = 0 ∧ Cond.static X.1 ∈ mj_GT ∧ ((X.2.2.2.2.2 = [] ∧ Cond.code X.1 X.2.1 X.2.2.1 X.2.2.2.1 ∈ mj_GT) ∨ Cond.codeWith X.1 X.2.1 X.2.2.1 X.2.2.2.1 X.2.2.2.2.2 ∈ mj_GT)) ∨
   ((mj_mw k).1 = 1 ∧ X.2.2.2.2.2 = [] ∧ Cond.code X.1 X.2.1 X.2.2.1 X.2.2.2.1 ∈ mj_GT ∧ Cond.instanceMethod X.1 ∈ mj_GT ∧ Cond.selects X.1.cls X.1 X.1 ∈ mj_GT) ∨
   ((mj_mw k).1 = 2 ∧ X.2.2.2.2.2 = [] ∧ X.1.name = "<init>" ∧ X.2.2.2.1 = none ∧ Cond.code X.1 X.2.1 X.2.2.1 X.2.2.2.1 ∈ mj_GT ∧ Cond.instanceMethod X.1 ∈ mj_GT))))
set_option maxRecDepth 20000 in
theorem mj_q0 : mj_Q 0 (⟨"PacketSieve$Coder", "<init>", "(LPacketSieve$Tree;LPacketSieve$Program;)V"⟩, prog_2_method_1_code, 3, none, 0, []) := ⟨by decide, rfl, by decide +kernel, Or.inr ⟨mj_in_Coder, Or.inr (Or.inr ⟨rfl, rfl, rfl, rfl, mj_t1 (i := 197) rfl rfl, mj_t1 (i := 196) rfl rfl⟩)⟩⟩
set_option maxRecDepth 20000 in
theorem mj_q1 : mj_Q 1 (⟨"PacketSieve$Coder", "translate", "(I)V"⟩, prog_2_method_2_code, 4, none, 0, []) := ⟨by decide, rfl, by decide +kernel, Or.inr ⟨mj_in_Coder, Or.inr (Or.inl ⟨rfl, rfl, mj_t3 (i := 200) rfl rfl, mj_t3 (i := 198) rfl rfl, mj_t3 (i := 199) rfl rfl⟩)⟩⟩
set_option maxRecDepth 20000 in
theorem mj_q2 : mj_Q 2 (⟨"PacketSieve$Coder", "condition", "(III)V"⟩, prog_2_method_3_code, 4, none, 0, []) := ⟨by decide, rfl, by decide +kernel, Or.inr ⟨mj_in_Coder, Or.inr (Or.inl ⟨rfl, rfl, mj_t3 (i := 232) rfl rfl, mj_t3 (i := 231) rfl rfl, mj_sel2 (i := 4) rfl⟩)⟩⟩
set_option maxRecDepth 20000 in
theorem mj_q3 : mj_Q 3 (⟨"PacketSieve$Coder", "protocol", "(III)V"⟩, prog_2_method_4_code, 5, none, 0, []) := ⟨by decide, rfl, by decide +kernel, Or.inr ⟨mj_in_Coder, Or.inr (Or.inl ⟨rfl, rfl, mj_t3 (i := 236) rfl rfl, mj_t3 (i := 235) rfl rfl, mj_sel2 (i := 5) rfl⟩)⟩⟩
set_option maxRecDepth 20000 in
theorem mj_q4 : mj_Q 4 (⟨"PacketSieve$Coder", "field", "(JI)V"⟩, prog_2_method_16_code, 4, none, 0, []) := ⟨by decide, rfl, by decide +kernel, Or.inr ⟨mj_in_Coder, Or.inr (Or.inl ⟨rfl, rfl, mj_t4 (i := 9) rfl rfl, mj_t4 (i := 8) rfl rfl, mj_sel2 (i := 6) rfl⟩)⟩⟩
set_option maxRecDepth 20000 in
theorem mj_q5 : mj_Q 5 (⟨"PacketSieve$Coder", "port", "(III)V"⟩, prog_2_method_6_code, 5, none, 0, []) := ⟨by decide, rfl, by decide +kernel, Or.inr ⟨mj_in_Coder, Or.inr (Or.inl ⟨rfl, rfl, mj_t4 (i := 15) rfl rfl, mj_t4 (i := 14) rfl rfl, mj_sel2 (i := 7) rfl⟩)⟩⟩
set_option maxRecDepth 20000 in
theorem mj_q6 : mj_Q 6 (⟨"PacketSieve$Coder", "ends", "(IIIII)V"⟩, prog_2_method_7_code, 7, none, 0, []) := ⟨by decide, rfl, by decide +kernel, Or.inr ⟨mj_in_Coder, Or.inr (Or.inl ⟨rfl, rfl, mj_t4 (i := 19) rfl rfl, mj_t4 (i := 18) rfl rfl, mj_sel2 (i := 8) rfl⟩)⟩⟩
set_option maxRecDepth 20000 in
theorem mj_q7 : mj_Q 7 (⟨"PacketSieve$Coder", "end", "(IIII)V"⟩, prog_2_method_8_code, 5, none, 0, []) := ⟨by decide, rfl, by decide +kernel, Or.inr ⟨mj_in_Coder, Or.inr (Or.inl ⟨rfl, rfl, mj_t4 (i := 23) rfl rfl, mj_t4 (i := 22) rfl rfl, mj_sel2 (i := 9) rfl⟩)⟩⟩
set_option maxRecDepth 20000 in
theorem mj_q8 : mj_Q 8 (⟨"PacketSieve$Coder", "fieldAtX", "(II)V"⟩, prog_2_method_17_code, 3, none, 0, []) := ⟨by decide, rfl, by decide +kernel, Or.inr ⟨mj_in_Coder, Or.inr (Or.inl ⟨rfl, rfl, mj_t4 (i := 27) rfl rfl, mj_t4 (i := 26) rfl rfl, mj_sel2 (i := 10) rfl⟩)⟩⟩
set_option maxRecDepth 20000 in
theorem mj_q9 : mj_Q 9 (⟨"PacketSieve$Coder", "whole", "(I)V"⟩, prog_2_method_5_code, 2, none, 0, []) := ⟨by decide, rfl, by decide +kernel, Or.inr ⟨mj_in_Coder, Or.inr (Or.inl ⟨rfl, rfl, mj_t4 (i := 32) rfl rfl, mj_t4 (i := 31) rfl rfl, mj_sel2 (i := 11) rfl⟩)⟩⟩
set_option maxRecDepth 20000 in
theorem mj_q10 : mj_Q 10 (⟨"PacketSieve$Coder", "relation", "(III)V"⟩, prog_2_method_9_code, 8, none, 0, []) := ⟨by decide, rfl, by decide +kernel, Or.inr ⟨mj_in_Coder, Or.inr (Or.inl ⟨rfl, rfl, mj_t4 (i := 38) rfl rfl, mj_t4 (i := 37) rfl rfl, mj_sel2 (i := 12) rfl⟩)⟩⟩
set_option maxRecDepth 20000 in
theorem mj_q11 : mj_Q 11 (⟨"PacketSieve$Coder", "comparison", "(III)V"⟩, prog_2_method_10_code, 7, none, 0, []) := ⟨by decide, rfl, by decide +kernel, Or.inr ⟨mj_in_Coder, Or.inr (Or.inl ⟨rfl, rfl, mj_t4 (i := 42) rfl rfl, mj_t4 (i := 41) rfl rfl, mj_sel2 (i := 13) rfl⟩)⟩⟩
set_option maxRecDepth 20000 in
theorem mj_q12 : mj_Q 12 (⟨"PacketSieve$Coder", "testOf", "(I)I"⟩, prog_2_method_11_code, 1, (some .int), 0, []) := ⟨by decide, rfl, by decide +kernel, Or.inr ⟨mj_in_Coder, Or.inl ⟨rfl, mj_t4 (i := 44) rfl rfl, Or.inl ⟨rfl, mj_t4 (i := 45) rfl rfl⟩⟩⟩⟩
set_option maxRecDepth 20000 in
theorem mj_q13 : mj_Q 13 (⟨"PacketSieve$Coder", "value", "(II)V"⟩, prog_2_method_12_code, 5, none, 0, []) := ⟨by decide, rfl, by decide +kernel, Or.inr ⟨mj_in_Coder, Or.inr (Or.inl ⟨rfl, rfl, mj_t4 (i := 53) rfl rfl, mj_t4 (i := 52) rfl rfl, mj_sel2 (i := 14) rfl⟩)⟩⟩
set_option maxRecDepth 20000 in
theorem mj_q14 : mj_Q 14 (⟨"PacketSieve$Coder", "isPairWithNumber", "(I)Z"⟩, prog_2_method_13_code, 2, (some .boolean), 0, []) := ⟨by decide, rfl, by decide +kernel, Or.inr ⟨mj_in_Coder, Or.inr (Or.inl ⟨rfl, rfl, mj_t4 (i := 57) rfl rfl, mj_t4 (i := 56) rfl rfl, mj_sel2 (i := 15) rfl⟩)⟩⟩
set_option maxRecDepth 20000 in
theorem mj_q15 : mj_Q 15 (⟨"PacketSieve$Coder", "access", "(II)V"⟩, prog_2_method_15_code, 7, none, 0, []) := ⟨by decide, rfl, by decide +kernel, Or.inr ⟨mj_in_Coder, Or.inr (Or.inl ⟨rfl, rfl, mj_t4 (i := 61) rfl rfl, mj_t4 (i := 60) rfl rfl, mj_sel3 (i := 0) rfl⟩)⟩⟩
set_option maxRecDepth 20000 in
theorem mj_q16 : mj_Q 16 (⟨"PacketSieve$Coder", "useCell", "(II)V"⟩, prog_2_method_18_code, 3, none, 0, []) := ⟨by decide, rfl, by decide +kernel, Or.inr ⟨mj_in_Coder, Or.inr (Or.inl ⟨rfl, rfl, mj_t4 (i := 66) rfl rfl, mj_t4 (i := 65) rfl rfl, mj_sel3 (i := 1) rfl⟩)⟩⟩
set_option maxRecDepth 20000 in
theorem mj_q17 : mj_Q 17 (⟨"PacketSieve$Coder", "twoValues", "(III)V"⟩, prog_2_method_14_code, 4, none, 0, []) := ⟨by decide, rfl, by decide +kernel, Or.inr ⟨mj_in_Coder, Or.inr (Or.inl ⟨rfl, rfl, mj_t4 (i := 72) rfl rfl, mj_t4 (i := 71) rfl rfl, mj_sel3 (i := 2) rfl⟩)⟩⟩
set_option maxRecDepth 20000 in
theorem mj_q18 : mj_Q 18 (⟨"PacketSieve$Filter", "<init>", "(LPacketSieve$Packet;)V"⟩, prog_3_method_1_code, 3, none, 1, []) := ⟨by decide, rfl, by decide +kernel, Or.inr ⟨mj_in_Filter, Or.inr (Or.inr ⟨rfl, rfl, rfl, rfl, mj_t1 (i := 90) rfl rfl, mj_t1 (i := 89) rfl rfl⟩)⟩⟩
set_option maxRecDepth 20000 in
theorem mj_q19 : mj_Q 19 (⟨"PacketSieve$Judge", "<init>", "(LPacketSieve$Tree;LPacketSieve$Packet;)V"⟩, prog_4_method_1_code, 3, none, 2, []) := ⟨by decide, rfl, by decide +kernel, Or.inr ⟨mj_in_Judge, Or.inr (Or.inr ⟨rfl, rfl, rfl, rfl, mj_t1 (i := 210) rfl rfl, mj_t1 (i := 209) rfl rfl⟩)⟩⟩
set_option maxRecDepth 20000 in
theorem mj_q20 : mj_Q 20 (⟨"PacketSieve$Judge", "judge", "()I"⟩, prog_4_method_2_code, 1, (some .int), 2, []) := ⟨by decide, rfl, by decide +kernel, Or.inr ⟨mj_in_Judge, Or.inr (Or.inl ⟨rfl, rfl, mj_t4 (i := 85) rfl rfl, mj_t4 (i := 83) rfl rfl, mj_t4 (i := 84) rfl rfl⟩)⟩⟩
set_option maxRecDepth 20000 in
theorem mj_q21 : mj_Q 21 (⟨"PacketSieve$Judge", "verdict", "(I)I"⟩, prog_4_method_3_code, 3, (some .int), 2, []) := ⟨by decide, rfl, by decide +kernel, Or.inr ⟨mj_in_Judge, Or.inr (Or.inl ⟨rfl, rfl, mj_t4 (i := 90) rfl rfl, mj_t4 (i := 89) rfl rfl, mj_sel3 (i := 3) rfl⟩)⟩⟩
set_option maxRecDepth 20000 in
theorem mj_q22 : mj_Q 22 (⟨"PacketSieve$Judge", "protocol", "(I)I"⟩, prog_4_method_4_code, 3, (some .int), 2, []) := ⟨by decide, rfl, by decide +kernel, Or.inr ⟨mj_in_Judge, Or.inr (Or.inl ⟨rfl, rfl, mj_t4 (i := 94) rfl rfl, mj_t4 (i := 93) rfl rfl, mj_sel3 (i := 4) rfl⟩)⟩⟩
set_option maxRecDepth 20000 in
theorem mj_q23 : mj_Q 23 (⟨"PacketSieve$Judge", "same", "(JJJ)I"⟩, prog_4_method_14_code, 6, (some .int), 2, []) := ⟨by decide, rfl, by decide +kernel, Or.inr ⟨mj_in_Judge, Or.inl ⟨rfl, mj_t4 (i := 104) rfl rfl, Or.inl ⟨rfl, mj_t4 (i := 105) rfl rfl⟩⟩⟩⟩
set_option maxRecDepth 20000 in
theorem mj_q24 : mj_Q 24 (⟨"PacketSieve$Judge", "port", "(I)I"⟩, prog_4_method_7_code, 5, (some .int), 2, []) := ⟨by decide, rfl, by decide +kernel, Or.inr ⟨mj_in_Judge, Or.inr (Or.inl ⟨rfl, rfl, mj_t4 (i := 112) rfl rfl, mj_t4 (i := 111) rfl rfl, mj_sel3 (i := 5) rfl⟩)⟩⟩
set_option maxRecDepth 20000 in
theorem mj_q25 : mj_Q 25 (⟨"PacketSieve$Judge", "whole", "()I"⟩, prog_4_method_5_code, 1, (some .int), 2, []) := ⟨by decide, rfl, by decide +kernel, Or.inr ⟨mj_in_Judge, Or.inr (Or.inl ⟨rfl, rfl, mj_t4 (i := 116) rfl rfl, mj_t4 (i := 115) rfl rfl, mj_sel3 (i := 6) rfl⟩)⟩⟩
set_option maxRecDepth 20000 in
theorem mj_q26 : mj_Q 26 (⟨"PacketSieve$Judge", "ends", "(IJJI)I"⟩, prog_4_method_8_code, 8, (some .int), 2, []) := ⟨by decide, rfl, by decide +kernel, Or.inr ⟨mj_in_Judge, Or.inr (Or.inl ⟨rfl, rfl, mj_t4 (i := 131) rfl rfl, mj_t4 (i := 130) rfl rfl, mj_sel3 (i := 7) rfl⟩)⟩⟩
set_option maxRecDepth 20000 in
theorem mj_q27 : mj_Q 27 (⟨"PacketSieve$Judge", "relation", "(I)I"⟩, prog_4_method_9_code, 7, (some .int), 2, []) := ⟨by decide, rfl, by decide +kernel, Or.inr ⟨mj_in_Judge, Or.inr (Or.inl ⟨rfl, rfl, mj_t4 (i := 135) rfl rfl, mj_t4 (i := 134) rfl rfl, mj_sel3 (i := 8) rfl⟩)⟩⟩
set_option maxRecDepth 20000 in
theorem mj_q28 : mj_Q 28 (⟨"PacketSieve$Judge", "protocols", "(I)I"⟩, prog_4_method_10_code, 3, (some .int), 2, []) := ⟨by decide, rfl, by decide +kernel, Or.inr ⟨mj_in_Judge, Or.inr (Or.inl ⟨rfl, rfl, mj_t4 (i := 139) rfl rfl, mj_t4 (i := 138) rfl rfl, mj_sel3 (i := 9) rfl⟩)⟩⟩
set_option maxRecDepth 20000 in
theorem mj_q29 : mj_Q 29 (⟨"PacketSieve$Judge", "wholeProtocol", "(I)I"⟩, prog_4_method_11_code, 3, (some .int), 2, []) := ⟨by decide, rfl, by decide +kernel, Or.inr ⟨mj_in_Judge, Or.inr (Or.inl ⟨rfl, rfl, mj_t4 (i := 143) rfl rfl, mj_t4 (i := 142) rfl rfl, mj_sel3 (i := 10) rfl⟩)⟩⟩
set_option maxRecDepth 20000 in
theorem mj_q30 : mj_Q 30 (⟨"PacketSieve$Judge", "value", "(I)J"⟩, prog_4_method_12_code, 2, (some .long), 2, []) := ⟨by decide, rfl, by decide +kernel, Or.inr ⟨mj_in_Judge, Or.inr (Or.inl ⟨rfl, rfl, mj_t4 (i := 147) rfl rfl, mj_t4 (i := 146) rfl rfl, mj_sel3 (i := 11) rfl⟩)⟩⟩
set_option maxRecDepth 20000 in
theorem mj_q31 : mj_Q 31 (⟨"PacketSieve$Judge", "access", "(IJI)J"⟩, prog_4_method_13_code, 7, (some .long), 2, []) := ⟨by decide, rfl, by decide +kernel, Or.inr ⟨mj_in_Judge, Or.inr (Or.inl ⟨rfl, rfl, mj_t4 (i := 152) rfl rfl, mj_t4 (i := 151) rfl rfl, mj_sel3 (i := 12) rfl⟩)⟩⟩
set_option maxRecDepth 20000 in
theorem mj_q32 : mj_Q 32 (⟨"PacketSieve$Judge", "compares", "(IJJ)Z"⟩, prog_4_method_15_code, 5, (some .boolean), 2, []) := ⟨by decide, rfl, by decide +kernel, Or.inr ⟨mj_in_Judge, Or.inl ⟨rfl, mj_t4 (i := 160) rfl rfl, Or.inl ⟨rfl, mj_t4 (i := 161) rfl rfl⟩⟩⟩⟩
set_option maxRecDepth 20000 in
theorem mj_q33 : mj_Q 33 (⟨"PacketSieve$Judge", "address", "(I)I"⟩, prog_4_method_6_code, 3, (some .int), 2, []) := ⟨by decide, rfl, by decide +kernel, Or.inr ⟨mj_in_Judge, Or.inr (Or.inl ⟨rfl, rfl, mj_t4 (i := 165) rfl rfl, mj_t4 (i := 164) rfl rfl, mj_sel3 (i := 13) rfl⟩)⟩⟩
set_option maxRecDepth 20000 in
theorem mj_q34 : mj_Q 34 (⟨"PacketSieve$Machine", "<init>", "(LPacketSieve$Packet;)V"⟩, prog_5_method_1_code, 2, none, 3, []) := ⟨by decide, rfl, by decide +kernel, Or.inr ⟨mj_in_Machine, Or.inr (Or.inr ⟨rfl, rfl, rfl, rfl, mj_t1 (i := 67) rfl rfl, mj_t1 (i := 66) rfl rfl⟩)⟩⟩
set_option maxRecDepth 20000 in
theorem mj_q35 : mj_Q 35 (⟨"PacketSieve$Machine", "report", "(I)I"⟩, prog_5_method_2_code, 2, (some .int), 3, []) := ⟨by decide, rfl, by decide +kernel, Or.inr ⟨mj_in_Machine, Or.inr (Or.inl ⟨rfl, rfl, mj_t2 (i := 99) rfl rfl, mj_t2 (i := 97) rfl rfl, mj_t2 (i := 98) rfl rfl⟩)⟩⟩
set_option maxRecDepth 20000 in
theorem mj_q36 : mj_Q 36 (⟨"PacketSieve$Machine", "execute", "(LPacketSieve$Program;)I"⟩, prog_5_method_3_code, 7, (some .int), 3, []) := ⟨by decide, rfl, by decide +kernel, Or.inr ⟨mj_in_Machine, Or.inr (Or.inl ⟨rfl, rfl, mj_t4 (i := 178) rfl rfl, mj_t4 (i := 176) rfl rfl, mj_t4 (i := 177) rfl rfl⟩)⟩⟩
set_option maxRecDepth 20000 in
theorem mj_q37 : mj_Q 37 (⟨"PacketSieve$Machine", "reset", "()V"⟩, prog_5_method_4_code, 2, none, 3, []) := ⟨by decide, rfl, by decide +kernel, Or.inr ⟨mj_in_Machine, Or.inr (Or.inl ⟨rfl, rfl, mj_t4 (i := 182) rfl rfl, mj_t4 (i := 181) rfl rfl, mj_sel3 (i := 14) rfl⟩)⟩⟩
set_option maxRecDepth 20000 in
theorem mj_q38 : mj_Q 38 (⟨"PacketSieve$Machine", "passes", "(IJ)Z"⟩, prog_5_method_5_code, 7, (some .boolean), 3, []) := ⟨by decide, rfl, by decide +kernel, Or.inr ⟨mj_in_Machine, Or.inr (Or.inl ⟨rfl, rfl, mj_t4 (i := 189) rfl rfl, mj_t4 (i := 188) rfl rfl, mj_sel3 (i := 15) rfl⟩)⟩⟩
set_option maxRecDepth 20000 in
theorem mj_q39 : mj_Q 39 (⟨"PacketSieve$Machine", "works", "(IJ)Z"⟩, prog_5_method_6_code, 5, (some .boolean), 3, []) := ⟨by decide, rfl, by decide +kernel, Or.inr ⟨mj_in_Machine, Or.inr (Or.inl ⟨rfl, rfl, mj_t4 (i := 195) rfl rfl, mj_t4 (i := 194) rfl rfl, mj_sel4 (i := 0) rfl⟩)⟩⟩
set_option maxRecDepth 20000 in
theorem mj_q40 : mj_Q 40 (⟨"PacketSieve$Machine", "takesX", "(J)Z"⟩, prog_5_method_9_code, 3, (some .boolean), 3, []) := ⟨by decide, rfl, by decide +kernel, Or.inr ⟨mj_in_Machine, Or.inr (Or.inl ⟨rfl, rfl, mj_t4 (i := 200) rfl rfl, mj_t4 (i := 199) rfl rfl, mj_sel4 (i := 1) rfl⟩)⟩⟩
set_option maxRecDepth 20000 in
theorem mj_q41 : mj_Q 41 (⟨"PacketSieve$Machine", "takesA", "(J)Z"⟩, prog_5_method_8_code, 3, (some .boolean), 3, []) := ⟨by decide, rfl, by decide +kernel, Or.inr ⟨mj_in_Machine, Or.inr (Or.inl ⟨rfl, rfl, mj_t4 (i := 205) rfl rfl, mj_t4 (i := 204) rfl rfl, mj_sel4 (i := 2) rfl⟩)⟩⟩
set_option maxRecDepth 20000 in
theorem mj_q42 : mj_Q 42 (⟨"PacketSieve$Machine", "fieldOrSum", "(IJ)J"⟩, prog_5_method_7_code, 4, (some .long), 3, []) := ⟨by decide, rfl, by decide +kernel, Or.inr ⟨mj_in_Machine, Or.inr (Or.inl ⟨rfl, rfl, mj_t4 (i := 210) rfl rfl, mj_t4 (i := 209) rfl rfl, mj_sel4 (i := 3) rfl⟩)⟩⟩
set_option maxRecDepth 20000 in
theorem mj_q43 : mj_Q 43 (⟨"PacketSieve$Packet", "<init>", "()V"⟩, prog_6_method_1_code, 1, none, 4, []) := ⟨by decide, rfl, by decide +kernel, Or.inr ⟨mj_in_Packet, Or.inr (Or.inr ⟨rfl, rfl, rfl, rfl, mj_t1 (i := 53) rfl rfl, mj_t1 (i := 52) rfl rfl⟩)⟩⟩
set_option maxRecDepth 20000 in
theorem mj_q44 : mj_Q 44 (⟨"PacketSieve$Packet", "hasRoom", "(I)Z"⟩, prog_6_method_4_code, 2, (some .boolean), 4, []) := ⟨by decide, rfl, by decide +kernel, Or.inr ⟨mj_in_Packet, Or.inr (Or.inl ⟨rfl, rfl, mj_t2 (i := 64) rfl rfl, mj_t2 (i := 62) rfl rfl, mj_t2 (i := 63) rfl rfl⟩)⟩⟩
set_option maxRecDepth 20000 in
theorem mj_q45 : mj_Q 45 (⟨"PacketSieve$Packet", "append", "(JI)V"⟩, prog_6_method_5_code, 5, none, 4, []) := ⟨by decide, rfl, by decide +kernel, Or.inr ⟨mj_in_Packet, Or.inr (Or.inl ⟨rfl, rfl, mj_t2 (i := 68) rfl rfl, mj_t2 (i := 66) rfl rfl, mj_t2 (i := 67) rfl rfl⟩)⟩⟩
set_option maxRecDepth 20000 in
theorem mj_q46 : mj_Q 46 (⟨"PacketSieve$Packet", "length", "()I"⟩, prog_6_method_3_code, 1, (some .int), 4, []) := ⟨by decide, rfl, by decide +kernel, Or.inr ⟨mj_in_Packet, Or.inr (Or.inl ⟨rfl, rfl, mj_t2 (i := 75) rfl rfl, mj_t2 (i := 73) rfl rfl, mj_t2 (i := 74) rfl rfl⟩)⟩⟩
set_option maxRecDepth 20000 in
theorem mj_q47 : mj_Q 47 (⟨"PacketSieve$Packet", "shorten", "(I)V"⟩, prog_6_method_6_code, 2, none, 4, []) := ⟨by decide, rfl, by decide +kernel, Or.inr ⟨mj_in_Packet, Or.inr (Or.inl ⟨rfl, rfl, mj_t2 (i := 83) rfl rfl, mj_t2 (i := 81) rfl rfl, mj_t2 (i := 82) rfl rfl⟩)⟩⟩
set_option maxRecDepth 20000 in
theorem mj_q48 : mj_Q 48 (⟨"PacketSieve$Packet", "replace", "(II)I"⟩, prog_6_method_7_code, 4, (some .int), 4, []) := ⟨by decide, rfl, by decide +kernel, Or.inr ⟨mj_in_Packet, Or.inr (Or.inl ⟨rfl, rfl, mj_t2 (i := 91) rfl rfl, mj_t2 (i := 89) rfl rfl, mj_t2 (i := 90) rfl rfl⟩)⟩⟩
set_option maxRecDepth 20000 in
theorem mj_q49 : mj_Q 49 (⟨"PacketSieve$Packet", "protocolNumber", "(I)I"⟩, prog_6_method_2_code, 1, (some .int), 4, []) := ⟨by decide, rfl, by decide +kernel, Or.inr ⟨mj_in_Packet, Or.inl ⟨rfl, mj_t3 (i := 238) rfl rfl, Or.inl ⟨rfl, mj_t3 (i := 239) rfl rfl⟩⟩⟩⟩
set_option maxRecDepth 20000 in
theorem mj_q50 : mj_Q 50 (⟨"PacketSieve$Packet", "field", "(JI)J"⟩, prog_6_method_8_code, 7, (some .long), 4, []) := ⟨by decide, rfl, by decide +kernel, Or.inr ⟨mj_in_Packet, Or.inr (Or.inl ⟨rfl, rfl, mj_t4 (i := 99) rfl rfl, mj_t4 (i := 97) rfl rfl, mj_t4 (i := 98) rfl rfl⟩)⟩⟩
set_option maxRecDepth 20000 in
theorem mj_q51 : mj_Q 51 (⟨"PacketSieve$Packet", "headerLength", "(J)J"⟩, prog_6_method_9_code, 5, (some .long), 4, []) := ⟨by decide, rfl, by decide +kernel, Or.inr ⟨mj_in_Packet, Or.inr (Or.inl ⟨rfl, rfl, mj_t4 (i := 123) rfl rfl, mj_t4 (i := 121) rfl rfl, mj_t4 (i := 122) rfl rfl⟩)⟩⟩
set_option maxRecDepth 20000 in
theorem mj_q52 : mj_Q 52 (⟨"PacketSieve$Parser", "<init>", "(LPacketSieve$Tree;)V"⟩, prog_7_method_1_code, 2, none, 5, []) := ⟨by decide, rfl, by decide +kernel, Or.inr ⟨mj_in_Parser, Or.inr (Or.inr ⟨rfl, rfl, rfl, rfl, mj_t1 (i := 162) rfl rfl, mj_t1 (i := 161) rfl rfl⟩)⟩⟩
set_option maxRecDepth 20000 in
theorem mj_q53 : mj_Q 53 (⟨"PacketSieve$Parser", "parse", "(LPacketSieve$Text;)V"⟩, prog_7_method_2_code, 2, none, 5, []) := ⟨by decide, rfl, by decide +kernel, Or.inr ⟨mj_in_Parser, Or.inr (Or.inl ⟨rfl, rfl, mj_t2 (i := 213) rfl rfl, mj_t2 (i := 211) rfl rfl, mj_t2 (i := 212) rfl rfl⟩)⟩⟩
set_option maxRecDepth 20000 in
theorem mj_q54 : mj_Q 54 (⟨"PacketSieve$Parser", "filter", "()I"⟩, prog_7_method_3_code, 4, (some .int), 5, []) := ⟨by decide, rfl, by decide +kernel, Or.inr ⟨mj_in_Parser, Or.inr (Or.inl ⟨rfl, rfl, mj_t3 (i := 88) rfl rfl, mj_t3 (i := 87) rfl rfl, mj_sel1 (i := 5) rfl⟩)⟩⟩
set_option maxRecDepth 20000 in
theorem mj_q55 : mj_Q 55 (⟨"PacketSieve$Parser", "part", "()I"⟩, prog_7_method_4_code, 4, (some .int), 5, []) := ⟨by decide, rfl, by decide +kernel, Or.inr ⟨mj_in_Parser, Or.inr (Or.inl ⟨rfl, rfl, mj_t3 (i := 92) rfl rfl, mj_t3 (i := 91) rfl rfl, mj_sel1 (i := 6) rfl⟩)⟩⟩
set_option maxRecDepth 20000 in
theorem mj_q56 : mj_Q 56 (⟨"PacketSieve$Parser", "unit", "()I"⟩, prog_7_method_5_code, 3, (some .int), 5, []) := ⟨by decide, rfl, by decide +kernel, Or.inr ⟨mj_in_Parser, Or.inr (Or.inl ⟨rfl, rfl, mj_t3 (i := 96) rfl rfl, mj_t3 (i := 95) rfl rfl, mj_sel1 (i := 7) rfl⟩)⟩⟩
set_option maxRecDepth 20000 in
theorem mj_q57 : mj_Q 57 (⟨"PacketSieve$Parser", "accept", "(I)Z"⟩, prog_7_method_15_code, 3, (some .boolean), 5, []) := ⟨by decide, rfl, by decide +kernel, Or.inr ⟨mj_in_Parser, Or.inr (Or.inl ⟨rfl, rfl, mj_t3 (i := 100) rfl rfl, mj_t3 (i := 99) rfl rfl, mj_sel1 (i := 8) rfl⟩)⟩⟩
set_option maxRecDepth 20000 in
theorem mj_q58 : mj_Q 58 (⟨"PacketSieve$Parser", "unitWithoutNot", "()I"⟩, prog_7_method_6_code, 3, (some .int), 5, []) := ⟨by decide, rfl, by decide +kernel, Or.inr ⟨mj_in_Parser, Or.inr (Or.inl ⟨rfl, rfl, mj_t3 (i := 108) rfl rfl, mj_t3 (i := 107) rfl rfl, mj_sel1 (i := 9) rfl⟩)⟩⟩
set_option maxRecDepth 20000 in
theorem mj_q59 : mj_Q 59 (⟨"PacketSieve$Parser", "enter", "()V"⟩, prog_7_method_13_code, 1, none, 5, []) := ⟨by decide, rfl, by decide +kernel, Or.inr ⟨mj_in_Parser, Or.inr (Or.inl ⟨rfl, rfl, mj_t3 (i := 112) rfl rfl, mj_t3 (i := 111) rfl rfl, mj_sel1 (i := 10) rfl⟩)⟩⟩
set_option maxRecDepth 20000 in
theorem mj_q60 : mj_Q 60 (⟨"PacketSieve$Parser", "leave", "(I)V"⟩, prog_7_method_14_code, 2, none, 5, []) := ⟨by decide, rfl, by decide +kernel, Or.inr ⟨mj_in_Parser, Or.inr (Or.inl ⟨rfl, rfl, mj_t3 (i := 118) rfl rfl, mj_t3 (i := 117) rfl rfl, mj_sel1 (i := 11) rfl⟩)⟩⟩
set_option maxRecDepth 20000 in
theorem mj_q61 : mj_Q 61 (⟨"PacketSieve$Parser", "expect", "(I)V"⟩, prog_7_method_16_code, 2, none, 5, []) := ⟨by decide, rfl, by decide +kernel, Or.inr ⟨mj_in_Parser, Or.inr (Or.inl ⟨rfl, rfl, mj_t3 (i := 122) rfl rfl, mj_t3 (i := 121) rfl rfl, mj_sel1 (i := 12) rfl⟩)⟩⟩
set_option maxRecDepth 20000 in
theorem mj_q62 : mj_Q 62 (⟨"PacketSieve$Parser", "protocolOf", "(I)I"⟩, prog_7_method_18_code, 1, (some .int), 5, []) := ⟨by decide, rfl, by decide +kernel, Or.inr ⟨mj_in_Parser, Or.inl ⟨rfl, mj_t3 (i := 124) rfl rfl, Or.inl ⟨rfl, mj_t3 (i := 125) rfl rfl⟩⟩⟩⟩
set_option maxRecDepth 20000 in
theorem mj_q63 : mj_Q 63 (⟨"PacketSieve$Parser", "isEndWord", "(I)Z"⟩, prog_7_method_19_code, 1, (some .boolean), 5, []) := ⟨by decide, rfl, by decide +kernel, Or.inr ⟨mj_in_Parser, Or.inl ⟨rfl, mj_t3 (i := 135) rfl rfl, Or.inl ⟨rfl, mj_t3 (i := 136) rfl rfl⟩⟩⟩⟩
set_option maxRecDepth 20000 in
theorem mj_q64 : mj_Q 64 (⟨"PacketSieve$Parser", "endPrimitive", "(I)I"⟩, prog_7_method_7_code, 6, (some .int), 5, []) := ⟨by decide, rfl, by decide +kernel, Or.inr ⟨mj_in_Parser, Or.inr (Or.inl ⟨rfl, rfl, mj_t3 (i := 140) rfl rfl, mj_t3 (i := 139) rfl rfl, mj_sel1 (i := 13) rfl⟩)⟩⟩
set_option maxRecDepth 20000 in
theorem mj_q65 : mj_Q 65 (⟨"PacketSieve$Parser", "address", "()J"⟩, prog_7_method_8_code, 4, (some .long), 5, []) := ⟨by decide, rfl, by decide +kernel, Or.inr ⟨mj_in_Parser, Or.inr (Or.inl ⟨rfl, rfl, mj_t3 (i := 144) rfl rfl, mj_t3 (i := 143) rfl rfl, mj_sel1 (i := 14) rfl⟩)⟩⟩
set_option maxRecDepth 20000 in
theorem mj_q66 : mj_Q 66 (⟨"PacketSieve$Parser", "numberUpTo", "(J)J"⟩, prog_7_method_17_code, 5, (some .long), 5, []) := ⟨by decide, rfl, by decide +kernel, Or.inr ⟨mj_in_Parser, Or.inr (Or.inl ⟨rfl, rfl, mj_t3 (i := 149) rfl rfl, mj_t3 (i := 148) rfl rfl, mj_sel1 (i := 15) rfl⟩)⟩⟩
set_option maxRecDepth 20000 in
theorem mj_q67 : mj_Q 67 (⟨"PacketSieve$Parser", "relation", "()I"⟩, prog_7_method_9_code, 5, (some .int), 5, []) := ⟨by decide, rfl, by decide +kernel, Or.inr ⟨mj_in_Parser, Or.inr (Or.inl ⟨rfl, rfl, mj_t3 (i := 160) rfl rfl, mj_t3 (i := 159) rfl rfl, mj_sel2 (i := 0) rfl⟩)⟩⟩
set_option maxRecDepth 20000 in
theorem mj_q68 : mj_Q 68 (⟨"PacketSieve$Parser", "value", "(I)I"⟩, prog_7_method_10_code, 6, (some .int), 5, []) := ⟨by decide, rfl, by decide +kernel, Or.inr ⟨mj_in_Parser, Or.inr (Or.inl ⟨rfl, rfl, mj_t3 (i := 168) rfl rfl, mj_t3 (i := 167) rfl rfl, mj_sel2 (i := 1) rfl⟩)⟩⟩
set_option maxRecDepth 20000 in
theorem mj_q69 : mj_Q 69 (⟨"PacketSieve$Parser", "item", "()I"⟩, prog_7_method_11_code, 2, (some .int), 5, []) := ⟨by decide, rfl, by decide +kernel, Or.inr ⟨mj_in_Parser, Or.inr (Or.inl ⟨rfl, rfl, mj_t3 (i := 172) rfl rfl, mj_t3 (i := 171) rfl rfl, mj_sel2 (i := 2) rfl⟩)⟩⟩
set_option maxRecDepth 20000 in
theorem mj_q70 : mj_Q 70 (⟨"PacketSieve$Parser", "access", "()I"⟩, prog_7_method_12_code, 5, (some .int), 5, []) := ⟨by decide, rfl, by decide +kernel, Or.inr ⟨mj_in_Parser, Or.inr (Or.inl ⟨rfl, rfl, mj_t3 (i := 176) rfl rfl, mj_t3 (i := 175) rfl rfl, mj_sel2 (i := 3) rfl⟩)⟩⟩
set_option maxRecDepth 20000 in
theorem mj_q71 : mj_Q 71 (⟨"PacketSieve$Parser", "strength", "(I)I"⟩, prog_7_method_21_code, 1, (some .int), 5, []) := ⟨by decide, rfl, by decide +kernel, Or.inr ⟨mj_in_Parser, Or.inl ⟨rfl, mj_t3 (i := 184) rfl rfl, Or.inl ⟨rfl, mj_t3 (i := 185) rfl rfl⟩⟩⟩⟩
set_option maxRecDepth 20000 in
theorem mj_q72 : mj_Q 72 (⟨"PacketSieve$Parser", "signNumber", "(I)I"⟩, prog_7_method_22_code, 1, (some .int), 5, []) := ⟨by decide, rfl, by decide +kernel, Or.inr ⟨mj_in_Parser, Or.inl ⟨rfl, mj_t3 (i := 187) rfl rfl, Or.inl ⟨rfl, mj_t3 (i := 188) rfl rfl⟩⟩⟩⟩
set_option maxRecDepth 20000 in
theorem mj_q73 : mj_Q 73 (⟨"PacketSieve$Parser", "isRelationSign", "(I)Z"⟩, prog_7_method_20_code, 1, (some .boolean), 5, []) := ⟨by decide, rfl, by decide +kernel, Or.inr ⟨mj_in_Parser, Or.inl ⟨rfl, mj_t3 (i := 191) rfl rfl, Or.inl ⟨rfl, mj_t3 (i := 192) rfl rfl⟩⟩⟩⟩
set_option maxRecDepth 20000 in
theorem mj_q74 : mj_Q 74 (⟨"PacketSieve$Program", "<init>", "()V"⟩, prog_8_method_1_code, 1, none, 6, []) := ⟨by decide, rfl, by decide +kernel, Or.inr ⟨mj_in_Program, Or.inr (Or.inr ⟨rfl, rfl, rfl, rfl, mj_t1 (i := 140) rfl rfl, mj_t1 (i := 139) rfl rfl⟩)⟩⟩
set_option maxRecDepth 20000 in
theorem mj_q75 : mj_Q 75 (⟨"PacketSieve$Program", "size", "()I"⟩, prog_8_method_3_code, 1, (some .int), 6, []) := ⟨by decide, rfl, by decide +kernel, Or.inr ⟨mj_in_Program, Or.inr (Or.inl ⟨rfl, rfl, mj_t2 (i := 37) rfl rfl, mj_t2 (i := 35) rfl rfl, mj_t2 (i := 36) rfl rfl⟩)⟩⟩
set_option maxRecDepth 20000 in
theorem mj_q76 : mj_Q 76 (⟨"PacketSieve$Program", "operation", "(I)I"⟩, prog_8_method_5_code, 2, (some .int), 6, []) := ⟨by decide, rfl, by decide +kernel, Or.inr ⟨mj_in_Program, Or.inr (Or.inl ⟨rfl, rfl, mj_t2 (i := 41) rfl rfl, mj_t2 (i := 39) rfl rfl, mj_t2 (i := 40) rfl rfl⟩)⟩⟩
set_option maxRecDepth 20000 in
theorem mj_q77 : mj_Q 77 (⟨"PacketSieve$Program", "wayIfSo", "(I)I"⟩, prog_8_method_6_code, 2, (some .int), 6, []) := ⟨by decide, rfl, by decide +kernel, Or.inr ⟨mj_in_Program, Or.inr (Or.inl ⟨rfl, rfl, mj_t2 (i := 45) rfl rfl, mj_t2 (i := 43) rfl rfl, mj_t2 (i := 44) rfl rfl⟩)⟩⟩
set_option maxRecDepth 20000 in
theorem mj_q78 : mj_Q 78 (⟨"PacketSieve$Program", "wayIfNot", "(I)I"⟩, prog_8_method_7_code, 2, (some .int), 6, []) := ⟨by decide, rfl, by decide +kernel, Or.inr ⟨mj_in_Program, Or.inr (Or.inl ⟨rfl, rfl, mj_t2 (i := 49) rfl rfl, mj_t2 (i := 47) rfl rfl, mj_t2 (i := 48) rfl rfl⟩)⟩⟩
set_option maxRecDepth 20000 in
theorem mj_q79 : mj_Q 79 (⟨"PacketSieve$Program", "number", "(I)J"⟩, prog_8_method_8_code, 2, (some .long), 6, []) := ⟨by decide, rfl, by decide +kernel, Or.inr ⟨mj_in_Program, Or.inr (Or.inl ⟨rfl, rfl, mj_t2 (i := 53) rfl rfl, mj_t2 (i := 51) rfl rfl, mj_t2 (i := 52) rfl rfl⟩)⟩⟩
set_option maxRecDepth 20000 in
theorem mj_q80 : mj_Q 80 (⟨"PacketSieve$Program", "empty", "()V"⟩, prog_8_method_2_code, 1, none, 6, []) := ⟨by decide, rfl, by decide +kernel, Or.inr ⟨mj_in_Program, Or.inr (Or.inl ⟨rfl, rfl, mj_t3 (i := 204) rfl rfl, mj_t3 (i := 202) rfl rfl, mj_t3 (i := 203) rfl rfl⟩)⟩⟩
set_option maxRecDepth 20000 in
theorem mj_q81 : mj_Q 81 (⟨"PacketSieve$Program", "prepend", "(IJ)V"⟩, prog_8_method_9_code, 4, none, 6, []) := ⟨by decide, rfl, by decide +kernel, Or.inr ⟨mj_in_Program, Or.inr (Or.inl ⟨rfl, rfl, mj_t3 (i := 208) rfl rfl, mj_t3 (i := 206) rfl rfl, mj_t3 (i := 207) rfl rfl⟩)⟩⟩
set_option maxRecDepth 20000 in
theorem mj_q82 : mj_Q 82 (⟨"PacketSieve$Program", "start", "()I"⟩, prog_8_method_4_code, 1, (some .int), 6, []) := ⟨by decide, rfl, by decide +kernel, Or.inr ⟨mj_in_Program, Or.inr (Or.inl ⟨rfl, rfl, mj_t3 (i := 227) rfl rfl, mj_t3 (i := 225) rfl rfl, mj_t3 (i := 226) rfl rfl⟩)⟩⟩
set_option maxRecDepth 20000 in
theorem mj_q83 : mj_Q 83 (⟨"PacketSieve$Program", "prependTest", "(IJII)V"⟩, prog_8_method_10_code, 7, none, 6, []) := ⟨by decide, rfl, by decide +kernel, Or.inr ⟨mj_in_Program, Or.inr (Or.inl ⟨rfl, rfl, mj_t4 (i := 3) rfl rfl, mj_t4 (i := 1) rfl rfl, mj_t4 (i := 2) rfl rfl⟩)⟩⟩
set_option maxRecDepth 20000 in
theorem mj_q84 : mj_Q 84 (⟨"PacketSieve$Text", "<init>", "()V"⟩, prog_9_method_1_code, 1, none, 7, []) := ⟨by decide, rfl, by decide +kernel, Or.inr ⟨mj_in_Text, Or.inr (Or.inr ⟨rfl, rfl, rfl, rfl, mj_t1 (i := 39) rfl rfl, mj_t1 (i := 38) rfl rfl⟩)⟩⟩
set_option maxRecDepth 20000 in
theorem mj_q85 : mj_Q 85 (⟨"PacketSieve$Text", "length", "()I"⟩, prog_9_method_3_code, 1, (some .int), 7, []) := ⟨by decide, rfl, by decide +kernel, Or.inr ⟨mj_in_Text, Or.inr (Or.inl ⟨rfl, rfl, mj_t2 (i := 25) rfl rfl, mj_t2 (i := 23) rfl rfl, mj_t2 (i := 24) rfl rfl⟩)⟩⟩
set_option maxRecDepth 20000 in
theorem mj_q86 : mj_Q 86 (⟨"PacketSieve$Text", "empty", "()V"⟩, prog_9_method_6_code, 1, none, 7, []) := ⟨by decide, rfl, by decide +kernel, Or.inr ⟨mj_in_Text, Or.inr (Or.inl ⟨rfl, rfl, mj_t2 (i := 29) rfl rfl, mj_t2 (i := 27) rfl rfl, mj_t2 (i := 28) rfl rfl⟩)⟩⟩
set_option maxRecDepth 20000 in
theorem mj_q87 : mj_Q 87 (⟨"PacketSieve$Text", "areCharacters", "(JI)Z"⟩, prog_9_method_2_code, 5, (some .boolean), 7, []) := ⟨by decide, rfl, by decide +kernel, Or.inr ⟨mj_in_Text, Or.inl ⟨rfl, mj_t2 (i := 113) rfl rfl, Or.inl ⟨rfl, mj_t2 (i := 114) rfl rfl⟩⟩⟩⟩
set_option maxRecDepth 20000 in
theorem mj_q88 : mj_Q 88 (⟨"PacketSieve$Text", "hasRoom", "(I)Z"⟩, prog_9_method_4_code, 2, (some .boolean), 7, []) := ⟨by decide, rfl, by decide +kernel, Or.inr ⟨mj_in_Text, Or.inr (Or.inl ⟨rfl, rfl, mj_t2 (i := 182) rfl rfl, mj_t2 (i := 180) rfl rfl, mj_t2 (i := 181) rfl rfl⟩)⟩⟩
set_option maxRecDepth 20000 in
theorem mj_q89 : mj_Q 89 (⟨"PacketSieve$Text", "append", "(JI)V"⟩, prog_9_method_5_code, 5, none, 7, []) := ⟨by decide, rfl, by decide +kernel, Or.inr ⟨mj_in_Text, Or.inr (Or.inl ⟨rfl, rfl, mj_t2 (i := 201) rfl rfl, mj_t2 (i := 199) rfl rfl, mj_t2 (i := 200) rfl rfl⟩)⟩⟩
set_option maxRecDepth 20000 in
theorem mj_q90 : mj_Q 90 (⟨"PacketSieve$Text", "at", "(I)I"⟩, prog_9_method_7_code, 2, (some .int), 7, []) := ⟨by decide, rfl, by decide +kernel, Or.inr ⟨mj_in_Text, Or.inr (Or.inl ⟨rfl, rfl, mj_t2 (i := 222) rfl rfl, mj_t2 (i := 220) rfl rfl, mj_t2 (i := 221) rfl rfl⟩)⟩⟩
set_option maxRecDepth 20000 in
theorem mj_q91 : mj_Q 91 (⟨"PacketSieve$Text", "spells", "(Ljava/lang/String;II)Z"⟩, prog_9_method_8_code, 5, (some .boolean), 7, []) := ⟨by decide, rfl, by decide +kernel, Or.inr ⟨mj_in_Text, Or.inr (Or.inl ⟨rfl, rfl, mj_t3 (i := 1) rfl rfl, mj_t2 (i := 239) rfl rfl, mj_t3 (i := 0) rfl rfl⟩)⟩⟩
set_option maxRecDepth 20000 in
theorem mj_q92 : mj_Q 92 (⟨"PacketSieve$Tokens", "<init>", "()V"⟩, prog_10_method_1_code, 1, none, 8, []) := ⟨by decide, rfl, by decide +kernel, Or.inr ⟨mj_in_Tokens, Or.inr (Or.inr ⟨rfl, rfl, rfl, rfl, mj_t1 (i := 168) rfl rfl, mj_t1 (i := 167) rfl rfl⟩)⟩⟩
set_option maxRecDepth 20000 in
theorem mj_q93 : mj_Q 93 (⟨"PacketSieve$Tokens", "read", "(LPacketSieve$Text;)V"⟩, prog_10_method_4_code, 4, none, 8, []) := ⟨by decide, rfl, by decide +kernel, Or.inr ⟨mj_in_Tokens, Or.inr (Or.inl ⟨rfl, rfl, mj_t2 (i := 217) rfl rfl, mj_t2 (i := 215) rfl rfl, mj_t2 (i := 216) rfl rfl⟩)⟩⟩
set_option maxRecDepth 20000 in
theorem mj_q94 : mj_Q 94 (⟨"PacketSieve$Tokens", "readToken", "(LPacketSieve$Text;I)I"⟩, prog_10_method_5_code, 3, (some .int), 8, []) := ⟨by decide, rfl, by decide +kernel, Or.inr ⟨mj_in_Tokens, Or.inr (Or.inl ⟨rfl, rfl, mj_t2 (i := 226) rfl rfl, mj_t2 (i := 225) rfl rfl, mj_sel1 (i := 1) rfl⟩)⟩⟩
set_option maxRecDepth 20000 in
theorem mj_q95 : mj_Q 95 (⟨"PacketSieve$Tokens", "isLetter", "(I)Z"⟩, prog_10_method_9_code, 1, (some .boolean), 8, []) := ⟨by decide, rfl, by decide +kernel, Or.inr ⟨mj_in_Tokens, Or.inl ⟨rfl, mj_t2 (i := 228) rfl rfl, Or.inl ⟨rfl, mj_t2 (i := 229) rfl rfl⟩⟩⟩⟩
set_option maxRecDepth 20000 in
theorem mj_q96 : mj_Q 96 (⟨"PacketSieve$Tokens", "readWord", "(LPacketSieve$Text;I)I"⟩, prog_10_method_6_code, 4, (some .int), 8, []) := ⟨by decide, rfl, by decide +kernel, Or.inr ⟨mj_in_Tokens, Or.inr (Or.inl ⟨rfl, rfl, mj_t2 (i := 233) rfl rfl, mj_t2 (i := 232) rfl rfl, mj_sel1 (i := 2) rfl⟩)⟩⟩
set_option maxRecDepth 20000 in
theorem mj_q97 : mj_Q 97 (⟨"PacketSieve$Tokens", "wordKind", "(LPacketSieve$Text;II)I"⟩, prog_10_method_11_code, 3, (some .int), 8, []) := ⟨by decide, rfl, by decide +kernel, Or.inr ⟨mj_in_Tokens, Or.inl ⟨rfl, mj_t2 (i := 235) rfl rfl, Or.inl ⟨rfl, mj_t2 (i := 236) rfl rfl⟩⟩⟩⟩
set_option maxRecDepth 20000 in
theorem mj_q98 : mj_Q 98 (⟨"PacketSieve$Tokens", "isDigit", "(I)Z"⟩, prog_10_method_10_code, 1, (some .boolean), 8, []) := ⟨by decide, rfl, by decide +kernel, Or.inr ⟨mj_in_Tokens, Or.inl ⟨rfl, mj_t3 (i := 64) rfl rfl, Or.inl ⟨rfl, mj_t3 (i := 65) rfl rfl⟩⟩⟩⟩
set_option maxRecDepth 20000 in
theorem mj_q99 : mj_Q 99 (⟨"PacketSieve$Tokens", "readNumber", "(LPacketSieve$Text;I)I"⟩, prog_10_method_7_code, 6, (some .int), 8, []) := ⟨by decide, rfl, by decide +kernel, Or.inr ⟨mj_in_Tokens, Or.inr (Or.inl ⟨rfl, rfl, mj_t3 (i := 69) rfl rfl, mj_t3 (i := 68) rfl rfl, mj_sel1 (i := 3) rfl⟩)⟩⟩
set_option maxRecDepth 20000 in
theorem mj_q100 : mj_Q 100 (⟨"PacketSieve$Tokens", "readSign", "(LPacketSieve$Text;I)I"⟩, prog_10_method_8_code, 5, (some .int), 8, []) := ⟨by decide, rfl, by decide +kernel, Or.inr ⟨mj_in_Tokens, Or.inr (Or.inl ⟨rfl, rfl, mj_t3 (i := 80) rfl rfl, mj_t3 (i := 79) rfl rfl, mj_sel1 (i := 4) rfl⟩)⟩⟩
set_option maxRecDepth 20000 in
theorem mj_q101 : mj_Q 101 (⟨"PacketSieve$Tokens", "kind", "(I)I"⟩, prog_10_method_2_code, 2, (some .int), 8, []) := ⟨by decide, rfl, by decide +kernel, Or.inr ⟨mj_in_Tokens, Or.inr (Or.inl ⟨rfl, rfl, mj_t3 (i := 104) rfl rfl, mj_t3 (i := 102) rfl rfl, mj_t3 (i := 103) rfl rfl⟩)⟩⟩
set_option maxRecDepth 20000 in
theorem mj_q102 : mj_Q 102 (⟨"PacketSieve$Tokens", "number", "(I)J"⟩, prog_10_method_3_code, 2, (some .long), 8, []) := ⟨by decide, rfl, by decide +kernel, Or.inr ⟨mj_in_Tokens, Or.inr (Or.inl ⟨rfl, rfl, mj_t3 (i := 153) rfl rfl, mj_t3 (i := 151) rfl rfl, mj_t3 (i := 152) rfl rfl⟩)⟩⟩
set_option maxRecDepth 20000 in
theorem mj_q103 : mj_Q 103 (⟨"PacketSieve$Tree", "<init>", "()V"⟩, prog_11_method_1_code, 1, none, 9, []) := ⟨by decide, rfl, by decide +kernel, Or.inr ⟨mj_in_Tree, Or.inr (Or.inr ⟨rfl, rfl, rfl, rfl, mj_t1 (i := 96) rfl rfl, mj_t1 (i := 95) rfl rfl⟩)⟩⟩
set_option maxRecDepth 20000 in
theorem mj_q104 : mj_Q 104 (⟨"PacketSieve$Tree", "empty", "()V"⟩, prog_11_method_2_code, 1, none, 9, []) := ⟨by decide, rfl, by decide +kernel, Or.inr ⟨mj_in_Tree, Or.inr (Or.inl ⟨rfl, rfl, mj_t3 (i := 84) rfl rfl, mj_t3 (i := 82) rfl rfl, mj_t3 (i := 83) rfl rfl⟩)⟩⟩
set_option maxRecDepth 20000 in
theorem mj_q105 : mj_Q 105 (⟨"PacketSieve$Tree", "addLeaf", "(IIJJ)I"⟩, prog_11_method_5_code, 8, (some .int), 9, []) := ⟨by decide, rfl, by decide +kernel, Or.inr ⟨mj_in_Tree, Or.inr (Or.inl ⟨rfl, rfl, mj_t3 (i := 129) rfl rfl, mj_t3 (i := 127) rfl rfl, mj_t3 (i := 128) rfl rfl⟩)⟩⟩
set_option maxRecDepth 20000 in
theorem mj_q106 : mj_Q 106 (⟨"PacketSieve$Tree", "addJoint", "(IIII)I"⟩, prog_11_method_6_code, 6, (some .int), 9, []) := ⟨by decide, rfl, by decide +kernel, Or.inr ⟨mj_in_Tree, Or.inr (Or.inl ⟨rfl, rfl, mj_t3 (i := 133) rfl rfl, mj_t3 (i := 131) rfl rfl, mj_t3 (i := 132) rfl rfl⟩)⟩⟩
set_option maxRecDepth 20000 in
theorem mj_q107 : mj_Q 107 (⟨"PacketSieve$Tree", "size", "()I"⟩, prog_11_method_3_code, 1, (some .int), 9, []) := ⟨by decide, rfl, by decide +kernel, Or.inr ⟨mj_in_Tree, Or.inr (Or.inl ⟨rfl, rfl, mj_t3 (i := 164) rfl rfl, mj_t3 (i := 162) rfl rfl, mj_t3 (i := 163) rfl rfl⟩)⟩⟩
set_option maxRecDepth 20000 in
theorem mj_q108 : mj_Q 108 (⟨"PacketSieve$Tree", "addAccess", "(IIJ)I"⟩, prog_11_method_7_code, 6, (some .int), 9, []) := ⟨by decide, rfl, by decide +kernel, Or.inr ⟨mj_in_Tree, Or.inr (Or.inl ⟨rfl, rfl, mj_t3 (i := 182) rfl rfl, mj_t3 (i := 180) rfl rfl, mj_t3 (i := 181) rfl rfl⟩)⟩⟩
set_option maxRecDepth 20000 in
theorem mj_q109 : mj_Q 109 (⟨"PacketSieve$Tree", "addRelation", "(IIII)I"⟩, prog_11_method_8_code, 7, (some .int), 9, []) := ⟨by decide, rfl, by decide +kernel, Or.inr ⟨mj_in_Tree, Or.inr (Or.inl ⟨rfl, rfl, mj_t3 (i := 196) rfl rfl, mj_t3 (i := 194) rfl rfl, mj_t3 (i := 195) rfl rfl⟩)⟩⟩
set_option maxRecDepth 20000 in
theorem mj_q110 : mj_Q 110 (⟨"PacketSieve$Tree", "isNumber", "(I)Z"⟩, prog_11_method_4_code, 2, (some .boolean), 9, []) := ⟨by decide, rfl, by decide +kernel, Or.inr ⟨mj_in_Tree, Or.inr (Or.inl ⟨rfl, rfl, mj_t4 (i := 49) rfl rfl, mj_t4 (i := 47) rfl rfl, mj_t4 (i := 48) rfl rfl⟩)⟩⟩
set_option maxRecDepth 20000 in
theorem mj_q111 : mj_Q 111 (⟨"PacketSieve", "<init>", "(I)V"⟩, prog_1_method_1_code, 2, none, 10, []) := ⟨by decide, rfl, by decide +kernel, Or.inr ⟨mj_in_Sieve, Or.inr (Or.inr ⟨rfl, rfl, rfl, rfl, mj_t1 (i := 28) rfl rfl, mj_t1 (i := 27) rfl rfl⟩)⟩⟩
set_option maxRecDepth 20000 in
theorem mj_q112 : mj_Q 112 (⟨"PacketSieve", "clear", "()I"⟩, prog_1_method_3_code, 2, (some .int), 10, []) := ⟨by decide, rfl, by decide +kernel, Or.inr ⟨mj_in_Sieve, Or.inr (Or.inl ⟨rfl, rfl, mj_t2 (i := 21) rfl rfl, mj_t2 (i := 19) rfl rfl, mj_t2 (i := 20) rfl rfl⟩)⟩⟩
set_option maxRecDepth 20000 in
theorem mj_q113 : mj_Q 113 (⟨"PacketSieve", "instruction", "(II)I"⟩, prog_1_method_5_code, 3, (some .int), 10, []) := ⟨by decide, rfl, by decide +kernel, Or.inr ⟨mj_in_Sieve, Or.inr (Or.inl ⟨rfl, rfl, mj_t2 (i := 33) rfl rfl, mj_t2 (i := 31) rfl rfl, mj_t2 (i := 32) rfl rfl⟩)⟩⟩
set_option maxRecDepth 20000 in
theorem mj_q114 : mj_Q 114 (⟨"PacketSieve", "put", "(JI)I"⟩, prog_1_method_6_code, 4, (some .int), 10, []) := ⟨by decide, rfl, by decide +kernel, Or.inr ⟨mj_in_Sieve, Or.inr (Or.inl ⟨rfl, rfl, mj_t2 (i := 57) rfl rfl, mj_t2 (i := 55) rfl rfl, mj_t2 (i := 56) rfl rfl⟩)⟩⟩
set_option maxRecDepth 20000 in
theorem mj_q115 : mj_Q 115 (⟨"PacketSieve", "isByteCount", "(I)Z"⟩, prog_1_method_12_code, 1, (some .boolean), 10, []) := ⟨by decide, rfl, by decide +kernel, Or.inr ⟨mj_in_Sieve, Or.inl ⟨rfl, mj_t2 (i := 59) rfl rfl, Or.inl ⟨rfl, mj_t2 (i := 60) rfl rfl⟩⟩⟩⟩
set_option maxRecDepth 20000 in
theorem mj_q116 : mj_Q 116 (⟨"PacketSieve", "byteOf", "(JI)I"⟩, prog_1_method_13_code, 3, (some .int), 10, []) := ⟨by decide, rfl, by decide +kernel, Or.inr ⟨mj_in_Sieve, Or.inl ⟨rfl, mj_t2 (i := 70) rfl rfl, Or.inl ⟨rfl, mj_t2 (i := 71) rfl rfl⟩⟩⟩⟩
set_option maxRecDepth 20000 in
theorem mj_q117 : mj_Q 117 (⟨"PacketSieve", "cut", "(I)I"⟩, prog_1_method_7_code, 3, (some .int), 10, []) := ⟨by decide, rfl, by decide +kernel, Or.inr ⟨mj_in_Sieve, Or.inr (Or.inl ⟨rfl, rfl, mj_t2 (i := 79) rfl rfl, mj_t2 (i := 77) rfl rfl, mj_t2 (i := 78) rfl rfl⟩)⟩⟩
set_option maxRecDepth 20000 in
theorem mj_q118 : mj_Q 118 (⟨"PacketSieve", "set", "(II)I"⟩, prog_1_method_8_code, 3, (some .int), 10, []) := ⟨by decide, rfl, by decide +kernel, Or.inr ⟨mj_in_Sieve, Or.inr (Or.inl ⟨rfl, rfl, mj_t2 (i := 87) rfl rfl, mj_t2 (i := 85) rfl rfl, mj_t2 (i := 86) rfl rfl⟩)⟩⟩
set_option maxRecDepth 20000 in
theorem mj_q119 : mj_Q 119 (⟨"PacketSieve", "state", "(I)I"⟩, prog_1_method_11_code, 2, (some .int), 10, []) := ⟨by decide, rfl, by decide +kernel, Or.inr ⟨mj_in_Sieve, Or.inr (Or.inl ⟨rfl, rfl, mj_t2 (i := 95) rfl rfl, mj_t2 (i := 93) rfl rfl, mj_t2 (i := 94) rfl rfl⟩)⟩⟩
set_option maxRecDepth 20000 in
theorem mj_q120 : mj_Q 120 (⟨"PacketSieve", "type", "(JI)I"⟩, prog_1_method_2_code, 4, (some .int), 10, []) := ⟨by decide, rfl, by decide +kernel, Or.inr ⟨mj_in_Sieve, Or.inr (Or.inl ⟨rfl, rfl, mj_t2 (i := 111) rfl rfl, mj_t2 (i := 109) rfl rfl, mj_t2 (i := 110) rfl rfl⟩)⟩⟩
set_option maxRecDepth 20000 in
theorem mj_q121 : mj_Q 121 (⟨"PacketSieve", "compile", "()I"⟩, prog_1_method_4_code, 2, (some .int), 10, []) := ⟨by decide, rfl, by decide +kernel, Or.inr ⟨mj_in_Sieve, Or.inr (Or.inl ⟨rfl, rfl, mj_t2 (i := 209) rfl rfl, mj_t2 (i := 207) rfl rfl, mj_t2 (i := 208) rfl rfl⟩)⟩⟩
set_option maxRecDepth 20000 in
theorem mj_q122 : mj_Q 122 (⟨"PacketSieve", "holds", "()I"⟩, prog_1_method_9_code, 1, (some .int), 10, []) := ⟨by decide, rfl, by decide +kernel, Or.inr ⟨mj_in_Sieve, Or.inr (Or.inl ⟨rfl, rfl, mj_t4 (i := 81) rfl rfl, mj_t4 (i := 79) rfl rfl, mj_t4 (i := 80) rfl rfl⟩)⟩⟩
set_option maxRecDepth 20000 in
theorem mj_q123 : mj_Q 123 (⟨"PacketSieve", "combine", "(IJJ)J"⟩, prog_1_method_14_code, 5, (some .long), 10, []) := ⟨by decide, rfl, by decide +kernel, Or.inr ⟨mj_in_Sieve, Or.inl ⟨rfl, mj_t4 (i := 154) rfl rfl, Or.inl ⟨rfl, mj_t4 (i := 155) rfl rfl⟩⟩⟩⟩
set_option maxRecDepth 20000 in
theorem mj_q124 : mj_Q 124 (⟨"PacketSieve", "run", "()I"⟩, prog_1_method_10_code, 1, (some .int), 10, []) := ⟨by decide, rfl, by decide +kernel, Or.inr ⟨mj_in_Sieve, Or.inr (Or.inl ⟨rfl, rfl, mj_t4 (i := 174) rfl rfl, mj_t4 (i := 172) rfl rfl, mj_t4 (i := 173) rfl rfl⟩)⟩⟩
set_option maxRecDepth 20000 in
theorem mj_q125 : mj_Q 125 (⟨"PacketSieveModel", "<init>", "(I)V"⟩, prog_13_method_1_code, 2, none, 11, []) := ⟨by decide, rfl, by decide +kernel, Or.inr ⟨mj_in_Model, Or.inr (Or.inr ⟨rfl, rfl, rfl, rfl, mj_t4 (i := 218) rfl rfl, mj_t4 (i := 217) rfl rfl⟩)⟩⟩
set_option maxRecDepth 20000 in
theorem mj_q126 : mj_Q 126 (⟨"PacketSieveModel", "thrown", "()I"⟩, prog_13_method_2_code, 1, (some .int), 11, []) := ⟨by decide, rfl, by decide +kernel, Or.inr ⟨mj_in_Model, Or.inr (Or.inl ⟨rfl, rfl, mj_t5 (i := 155) rfl rfl, mj_t5 (i := 153) rfl rfl, mj_t5 (i := 154) rfl rfl⟩)⟩⟩
set_option maxRecDepth 20000 in
theorem mj_q127 : mj_Q 127 (⟨"PacketSieveModel", "type", "(JI)I"⟩, prog_13_method_5_code, 6, (some .int), 11, []) := ⟨by decide, rfl, by decide +kernel, Or.inr ⟨mj_in_Model, Or.inr (Or.inl ⟨rfl, rfl, mj_t5 (i := 159) rfl rfl, mj_t5 (i := 157) rfl rfl, mj_t5 (i := 158) rfl rfl⟩)⟩⟩
set_option maxRecDepth 20000 in
theorem mj_q128 : mj_Q 128 (⟨"PacketSieveModel", "isCharacter", "(J)Z"⟩, prog_13_method_4_code, 2, (some .boolean), 11, []) := ⟨by decide, rfl, by decide +kernel, Or.inr ⟨mj_in_Model, Or.inl ⟨rfl, mj_t5 (i := 162) rfl rfl, Or.inl ⟨rfl, mj_t5 (i := 163) rfl rfl⟩⟩⟩⟩
set_option maxRecDepth 20000 in
theorem mj_q129 : mj_Q 129 (⟨"PacketSieveModel", "clear", "()I"⟩, prog_13_method_6_code, 2, (some .int), 11, []) := ⟨by decide, rfl, by decide +kernel, Or.inr ⟨mj_in_Model, Or.inr (Or.inl ⟨rfl, rfl, mj_t5 (i := 169) rfl rfl, mj_t5 (i := 167) rfl rfl, mj_t5 (i := 168) rfl rfl⟩)⟩⟩
set_option maxRecDepth 20000 in
theorem mj_q130 : mj_Q 130 (⟨"PacketSieveModel", "compile", "()I"⟩, prog_13_method_52_code, 2, (some .int), 11, []) := ⟨by decide, rfl, by decide +kernel, Or.inr ⟨mj_in_Model, Or.inr (Or.inl ⟨rfl, rfl, mj_t5 (i := 173) rfl rfl, mj_t5 (i := 171) rfl rfl, mj_t5 (i := 172) rfl rfl⟩)⟩⟩
set_option maxRecDepth 20000 in
theorem mj_q131 : mj_Q 131 (⟨"PacketSieveModel", "reads", "()Z"⟩, prog_13_method_32_code, 2, (some .boolean), 11, []) := ⟨by decide, rfl, by decide +kernel, Or.inr ⟨mj_in_Model, Or.inr (Or.inl ⟨rfl, rfl, mj_t5 (i := 177) rfl rfl, mj_t5 (i := 176) rfl rfl, mj_sel4 (i := 4) rfl⟩)⟩⟩
set_option maxRecDepth 20000 in
theorem mj_q132 : mj_Q 132 (⟨"PacketSieveModel", "take", "()V"⟩, prog_13_method_11_code, 4, none, 11, []) := ⟨by decide, rfl, by decide +kernel, Or.inr ⟨mj_in_Model, Or.inr (Or.inl ⟨rfl, rfl, mj_t5 (i := 181) rfl rfl, mj_t5 (i := 180) rfl rfl, mj_sel4 (i := 5) rfl⟩)⟩⟩
set_option maxRecDepth 20000 in
theorem mj_q133 : mj_Q 133 (⟨"PacketSieveModel", "character", "(I)I"⟩, prog_13_method_7_code, 2, (some .int), 11, []) := ⟨by decide, rfl, by decide +kernel, Or.inr ⟨mj_in_Model, Or.inr (Or.inl ⟨rfl, rfl, mj_t5 (i := 185) rfl rfl, mj_t5 (i := 184) rfl rfl, mj_sel4 (i := 6) rfl⟩)⟩⟩
set_option maxRecDepth 20000 in
theorem mj_q134 : mj_Q 134 (⟨"PacketSieveModel", "isLetter", "(I)Z"⟩, prog_13_method_8_code, 1, (some .boolean), 11, []) := ⟨by decide, rfl, by decide +kernel, Or.inr ⟨mj_in_Model, Or.inl ⟨rfl, mj_t5 (i := 187) rfl rfl, Or.inl ⟨rfl, mj_t5 (i := 188) rfl rfl⟩⟩⟩⟩
set_option maxRecDepth 20000 in
theorem mj_q135 : mj_Q 135 (⟨"PacketSieveModel", "isDigit", "(I)Z"⟩, prog_13_method_9_code, 1, (some .boolean), 11, []) := ⟨by decide, rfl, by decide +kernel, Or.inr ⟨mj_in_Model, Or.inl ⟨rfl, mj_t5 (i := 190) rfl rfl, Or.inl ⟨rfl, mj_t5 (i := 191) rfl rfl⟩⟩⟩⟩
set_option maxRecDepth 20000 in
theorem mj_q136 : mj_Q 136 (⟨"PacketSieveModel", "isTwo", "(II)Z"⟩, prog_13_method_10_code, 2, (some .boolean), 11, []) := ⟨by decide, rfl, by decide +kernel, Or.inr ⟨mj_in_Model, Or.inl ⟨rfl, mj_t5 (i := 197) rfl rfl, Or.inl ⟨rfl, mj_t5 (i := 198) rfl rfl⟩⟩⟩⟩
set_option maxRecDepth 20000 in
theorem mj_q137 : mj_Q 137 (⟨"PacketSieveModel", "begins", "()Z"⟩, prog_13_method_28_code, 5, (some .boolean), 11, []) := ⟨by decide, rfl, by decide +kernel, Or.inr ⟨mj_in_Model, Or.inr (Or.inl ⟨rfl, rfl, mj_t5 (i := 203) rfl rfl, mj_t5 (i := 202) rfl rfl, mj_sel4 (i := 7) rfl⟩)⟩⟩
set_option maxRecDepth 20000 in
theorem mj_q138 : mj_Q 138 (⟨"PacketSieveModel", "protocol", "()I"⟩, prog_13_method_27_code, 1, (some .int), 11, []) := ⟨by decide, rfl, by decide +kernel, Or.inr ⟨mj_in_Model, Or.inr (Or.inl ⟨rfl, rfl, mj_t5 (i := 207) rfl rfl, mj_t5 (i := 206) rfl rfl, mj_sel4 (i := 8) rfl⟩)⟩⟩
set_option maxRecDepth 20000 in
theorem mj_q139 : mj_Q 139 (⟨"PacketSieveModel", "isWord", "(J)Z"⟩, prog_13_method_12_code, 3, (some .boolean), 11, []) := ⟨by decide, rfl, by decide +kernel, Or.inr ⟨mj_in_Model, Or.inr (Or.inl ⟨rfl, rfl, mj_t5 (i := 212) rfl rfl, mj_t5 (i := 211) rfl rfl, mj_sel4 (i := 9) rfl⟩)⟩⟩
set_option maxRecDepth 20000 in
theorem mj_q140 : mj_Q 140 (⟨"PacketSieveModel", "isSign", "(J)Z"⟩, prog_13_method_13_code, 3, (some .boolean), 11, []) := ⟨by decide, rfl, by decide +kernel, Or.inr ⟨mj_in_Model, Or.inr (Or.inl ⟨rfl, rfl, mj_t5 (i := 220) rfl rfl, mj_t5 (i := 219) rfl rfl, mj_sel4 (i := 10) rfl⟩)⟩⟩
set_option maxRecDepth 20000 in
theorem mj_q141 : mj_Q 141 (⟨"PacketSieveModel", "open", "(II)V"⟩, prog_13_method_20_code, 3, none, 11, []) := ⟨by decide, rfl, by decide +kernel, Or.inr ⟨mj_in_Model, Or.inr (Or.inl ⟨rfl, rfl, mj_t5 (i := 224) rfl rfl, mj_t5 (i := 223) rfl rfl, mj_sel4 (i := 11) rfl⟩)⟩⟩
set_option maxRecDepth 20000 in
theorem mj_q142 : mj_Q 142 (⟨"PacketSieveModel", "hold", "(II)V"⟩, prog_13_method_19_code, 3, none, 11, []) := ⟨by decide, rfl, by decide +kernel, Or.inr ⟨mj_in_Model, Or.inr (Or.inl ⟨rfl, rfl, mj_t5 (i := 228) rfl rfl, mj_t5 (i := 227) rfl rfl, mj_sel4 (i := 12) rfl⟩)⟩⟩
set_option maxRecDepth 20000 in
theorem mj_q143 : mj_Q 143 (⟨"PacketSieveModel", "node", "(IIIIJ)V"⟩, prog_13_method_16_code, 7, none, 11, []) := ⟨by decide, rfl, by decide +kernel, Or.inr ⟨mj_in_Model, Or.inr (Or.inl ⟨rfl, rfl, mj_t5 (i := 232) rfl rfl, mj_t5 (i := 231) rfl rfl, mj_sel4 (i := 13) rfl⟩)⟩⟩
set_option maxRecDepth 20000 in
theorem mj_q144 : mj_Q 144 (⟨"PacketSieveModel", "primitive", "(I)V"⟩, prog_13_method_26_code, 7, none, 11, []) := ⟨by decide, rfl, by decide +kernel, Or.inr ⟨mj_in_Model, Or.inr (Or.inl ⟨rfl, rfl, mj_t6 (i := 2) rfl rfl, mj_t6 (i := 1) rfl rfl, mj_sel4 (i := 14) rfl⟩)⟩⟩
set_option maxRecDepth 20000 in
theorem mj_q145 : mj_Q 145 (⟨"PacketSieveModel", "address", "()J"⟩, prog_13_method_25_code, 4, (some .long), 11, []) := ⟨by decide, rfl, by decide +kernel, Or.inr ⟨mj_in_Model, Or.inr (Or.inl ⟨rfl, rfl, mj_t6 (i := 9) rfl rfl, mj_t6 (i := 8) rfl rfl, mj_sel4 (i := 15) rfl⟩)⟩⟩
set_option maxRecDepth 20000 in
theorem mj_q146 : mj_Q 146 (⟨"PacketSieveModel", "need", "(J)V"⟩, prog_13_method_14_code, 3, none, 11, []) := ⟨by decide, rfl, by decide +kernel, Or.inr ⟨mj_in_Model, Or.inr (Or.inl ⟨rfl, rfl, mj_t6 (i := 14) rfl rfl, mj_t6 (i := 13) rfl rfl, mj_sel5 (i := 0) rfl⟩)⟩⟩
set_option maxRecDepth 20000 in
theorem mj_q147 : mj_Q 147 (⟨"PacketSieveModel", "needNumber", "(J)J"⟩, prog_13_method_15_code, 5, (some .long), 11, []) := ⟨by decide, rfl, by decide +kernel, Or.inr ⟨mj_in_Model, Or.inr (Or.inl ⟨rfl, rfl, mj_t6 (i := 18) rfl rfl, mj_t6 (i := 17) rfl rfl, mj_sel5 (i := 1) rfl⟩)⟩⟩
set_option maxRecDepth 20000 in
theorem mj_q148 : mj_Q 148 (⟨"PacketSieveModel", "goesOn", "()Z"⟩, prog_13_method_31_code, 2, (some .boolean), 11, []) := ⟨by decide, rfl, by decide +kernel, Or.inr ⟨mj_in_Model, Or.inr (Or.inl ⟨rfl, rfl, mj_t6 (i := 24) rfl rfl, mj_t6 (i := 23) rfl rfl, mj_sel5 (i := 2) rfl⟩)⟩⟩
set_option maxRecDepth 20000 in
theorem mj_q149 : mj_Q 149 (⟨"PacketSieveModel", "strength", "()I"⟩, prog_13_method_21_code, 1, (some .int), 11, []) := ⟨by decide, rfl, by decide +kernel, Or.inr ⟨mj_in_Model, Or.inr (Or.inl ⟨rfl, rfl, mj_t6 (i := 28) rfl rfl, mj_t6 (i := 27) rfl rfl, mj_sel5 (i := 3) rfl⟩)⟩⟩
set_option maxRecDepth 20000 in
theorem mj_q150 : mj_Q 150 (⟨"PacketSieveModel", "reduceTo", "(I)V"⟩, prog_13_method_24_code, 2, none, 11, []) := ⟨by decide, rfl, by decide +kernel, Or.inr ⟨mj_in_Model, Or.inr (Or.inl ⟨rfl, rfl, mj_t6 (i := 47) rfl rfl, mj_t6 (i := 46) rfl rfl, mj_sel5 (i := 4) rfl⟩)⟩⟩
set_option maxRecDepth 20000 in
theorem mj_q151 : mj_Q 151 (⟨"PacketSieveModel", "reduce", "()V"⟩, prog_13_method_23_code, 5, none, 11, []) := ⟨by decide, rfl, by decide +kernel, Or.inr ⟨mj_in_Model, Or.inr (Or.inl ⟨rfl, rfl, mj_t6 (i := 51) rfl rfl, mj_t6 (i := 50) rfl rfl, mj_sel5 (i := 5) rfl⟩)⟩⟩
set_option maxRecDepth 20000 in
theorem mj_q152 : mj_Q 152 (⟨"PacketSieveModel", "pop", "()I"⟩, prog_13_method_18_code, 1, (some .int), 11, []) := ⟨by decide, rfl, by decide +kernel, Or.inr ⟨mj_in_Model, Or.inr (Or.inl ⟨rfl, rfl, mj_t6 (i := 55) rfl rfl, mj_t6 (i := 54) rfl rfl, mj_sel5 (i := 6) rfl⟩)⟩⟩
set_option maxRecDepth 20000 in
theorem mj_q153 : mj_Q 153 (⟨"PacketSieveModel", "isValue", "(I)Z"⟩, prog_13_method_17_code, 2, (some .boolean), 11, []) := ⟨by decide, rfl, by decide +kernel, Or.inr ⟨mj_in_Model, Or.inr (Or.inl ⟨rfl, rfl, mj_t6 (i := 59) rfl rfl, mj_t6 (i := 58) rfl rfl, mj_sel5 (i := 7) rfl⟩)⟩⟩
set_option maxRecDepth 20000 in
theorem mj_q154 : mj_Q 154 (⟨"PacketSieveModel", "numberOf", "()I"⟩, prog_13_method_22_code, 2, (some .int), 11, []) := ⟨by decide, rfl, by decide +kernel, Or.inr ⟨mj_in_Model, Or.inr (Or.inl ⟨rfl, rfl, mj_t6 (i := 63) rfl rfl, mj_t6 (i := 62) rfl rfl, mj_sel5 (i := 8) rfl⟩)⟩⟩
set_option maxRecDepth 20000 in
theorem mj_q155 : mj_Q 155 (⟨"PacketSieveModel", "closeSquare", "()V"⟩, prog_13_method_30_code, 5, none, 11, []) := ⟨by decide, rfl, by decide +kernel, Or.inr ⟨mj_in_Model, Or.inr (Or.inl ⟨rfl, rfl, mj_t6 (i := 69) rfl rfl, mj_t6 (i := 68) rfl rfl, mj_sel5 (i := 9) rfl⟩)⟩⟩
set_option maxRecDepth 20000 in
theorem mj_q156 : mj_Q 156 (⟨"PacketSieveModel", "close", "(I)V"⟩, prog_13_method_29_code, 2, none, 11, []) := ⟨by decide, rfl, by decide +kernel, Or.inr ⟨mj_in_Model, Or.inr (Or.inl ⟨rfl, rfl, mj_t6 (i := 73) rfl rfl, mj_t6 (i := 72) rfl rfl, mj_sel5 (i := 10) rfl⟩)⟩⟩
set_option maxRecDepth 20000 in
theorem mj_q157 : mj_Q 157 (⟨"PacketSieveModel", "refuse", "(I)I"⟩, prog_13_method_3_code, 2, (some .int), 11, []) := ⟨by decide, rfl, by decide +kernel, Or.inr ⟨mj_in_Model, Or.inr (Or.inl ⟨rfl, rfl, mj_t6 (i := 81) rfl rfl, mj_t6 (i := 80) rfl rfl, mj_sel5 (i := 11) rfl⟩)⟩⟩
set_option maxRecDepth 20000 in
theorem mj_q158 : mj_Q 158 (⟨"PacketSieveModel", "link", "()V"⟩, prog_13_method_34_code, 4, none, 11, []) := ⟨by decide, rfl, by decide +kernel, Or.inr ⟨mj_in_Model, Or.inr (Or.inl ⟨rfl, rfl, mj_t6 (i := 85) rfl rfl, mj_t6 (i := 84) rfl rfl, mj_sel5 (i := 12) rfl⟩)⟩⟩
set_option maxRecDepth 20000 in
theorem mj_q159 : mj_Q 159 (⟨"PacketSieveModel", "firstLeaf", "(I)I"⟩, prog_13_method_33_code, 3, (some .int), 11, []) := ⟨by decide, rfl, by decide +kernel, Or.inr ⟨mj_in_Model, Or.inr (Or.inl ⟨rfl, rfl, mj_t6 (i := 89) rfl rfl, mj_t6 (i := 88) rfl rfl, mj_sel5 (i := 13) rfl⟩)⟩⟩
set_option maxRecDepth 20000 in
theorem mj_q160 : mj_Q 160 (⟨"PacketSieveModel", "emitLeaf", "(I)V"⟩, prog_13_method_49_code, 2, none, 11, []) := ⟨by decide, rfl, by decide +kernel, Or.inr ⟨mj_in_Model, Or.inr (Or.inl ⟨rfl, rfl, mj_t6 (i := 93) rfl rfl, mj_t6 (i := 92) rfl rfl, mj_sel5 (i := 14) rfl⟩)⟩⟩
set_option maxRecDepth 20000 in
theorem mj_q161 : mj_Q 161 (⟨"PacketSieveModel", "emitProtocol", "(III)V"⟩, prog_13_method_38_code, 4, none, 11, []) := ⟨by decide, rfl, by decide +kernel, Or.inr ⟨mj_in_Model, Or.inr (Or.inl ⟨rfl, rfl, mj_t6 (i := 97) rfl rfl, mj_t6 (i := 96) rfl rfl, mj_sel5 (i := 15) rfl⟩)⟩⟩
set_option maxRecDepth 20000 in
theorem mj_q162 : mj_Q 162 (⟨"PacketSieveModel", "plain", "(IJ)V"⟩, prog_13_method_36_code, 4, none, 11, []) := ⟨by decide, rfl, by decide +kernel, Or.inr ⟨mj_in_Model, Or.inr (Or.inl ⟨rfl, rfl, mj_t6 (i := 102) rfl rfl, mj_t6 (i := 101) rfl rfl, mj_sel6 (i := 0) rfl⟩)⟩⟩
set_option maxRecDepth 20000 in
theorem mj_q163 : mj_Q 163 (⟨"PacketSieveModel", "emit", "(IJII)V"⟩, prog_13_method_35_code, 6, none, 11, []) := ⟨by decide, rfl, by decide +kernel, Or.inr ⟨mj_in_Model, Or.inr (Or.inl ⟨rfl, rfl, mj_t6 (i := 106) rfl rfl, mj_t6 (i := 105) rfl rfl, mj_sel6 (i := 1) rfl⟩)⟩⟩
set_option maxRecDepth 20000 in
theorem mj_q164 : mj_Q 164 (⟨"PacketSieveModel", "emitIp", "(I)V"⟩, prog_13_method_37_code, 2, none, 11, []) := ⟨by decide, rfl, by decide +kernel, Or.inr ⟨mj_in_Model, Or.inr (Or.inl ⟨rfl, rfl, mj_t6 (i := 115) rfl rfl, mj_t6 (i := 114) rfl rfl, mj_sel6 (i := 2) rfl⟩)⟩⟩
set_option maxRecDepth 20000 in
theorem mj_q165 : mj_Q 165 (⟨"PacketSieveModel", "maskOf", "(I)J"⟩, prog_13_method_40_code, 1, (some .long), 11, []) := ⟨by decide, rfl, by decide +kernel, Or.inr ⟨mj_in_Model, Or.inl ⟨rfl, mj_t6 (i := 119) rfl rfl, Or.inl ⟨rfl, mj_t6 (i := 120) rfl rfl⟩⟩⟩⟩
set_option maxRecDepth 20000 in
theorem mj_q166 : mj_Q 166 (⟨"PacketSieveModel", "emitSides", "(IIJJJ)V"⟩, prog_13_method_41_code, 13, none, 11, []) := ⟨by decide, rfl, by decide +kernel, Or.inr ⟨mj_in_Model, Or.inr (Or.inl ⟨rfl, rfl, mj_t6 (i := 124) rfl rfl, mj_t6 (i := 123) rfl rfl, mj_sel6 (i := 3) rfl⟩)⟩⟩
set_option maxRecDepth 20000 in
theorem mj_q167 : mj_Q 167 (⟨"PacketSieveModel", "emitPort", "(I)V"⟩, prog_13_method_42_code, 2, none, 11, []) := ⟨by decide, rfl, by decide +kernel, Or.inr ⟨mj_in_Model, Or.inr (Or.inl ⟨rfl, rfl, mj_t6 (i := 128) rfl rfl, mj_t6 (i := 127) rfl rfl, mj_sel6 (i := 4) rfl⟩)⟩⟩
set_option maxRecDepth 20000 in
theorem mj_q168 : mj_Q 168 (⟨"PacketSieveModel", "emitWhole", "(I)V"⟩, prog_13_method_39_code, 2, none, 11, []) := ⟨by decide, rfl, by decide +kernel, Or.inr ⟨mj_in_Model, Or.inr (Or.inl ⟨rfl, rfl, mj_t6 (i := 132) rfl rfl, mj_t6 (i := 131) rfl rfl, mj_sel6 (i := 5) rfl⟩)⟩⟩
set_option maxRecDepth 20000 in
theorem mj_q169 : mj_Q 169 (⟨"PacketSieveModel", "emitRelation", "(I)V"⟩, prog_13_method_48_code, 7, none, 11, []) := ⟨by decide, rfl, by decide +kernel, Or.inr ⟨mj_in_Model, Or.inr (Or.inl ⟨rfl, rfl, mj_t6 (i := 140) rfl rfl, mj_t6 (i := 139) rfl rfl, mj_sel6 (i := 6) rfl⟩)⟩⟩
set_option maxRecDepth 20000 in
theorem mj_q170 : mj_Q 170 (⟨"PacketSieveModel", "hasAccess", "(II)Z"⟩, prog_13_method_43_code, 5, (some .boolean), 11, []) := ⟨by decide, rfl, by decide +kernel, Or.inr ⟨mj_in_Model, Or.inr (Or.inl ⟨rfl, rfl, mj_t6 (i := 144) rfl rfl, mj_t6 (i := 143) rfl rfl, mj_sel6 (i := 7) rfl⟩)⟩⟩
set_option maxRecDepth 20000 in
theorem mj_q171 : mj_Q 171 (⟨"PacketSieveModel", "emitValue", "(IJ)V"⟩, prog_13_method_47_code, 5, none, 11, []) := ⟨by decide, rfl, by decide +kernel, Or.inr ⟨mj_in_Model, Or.inr (Or.inl ⟨rfl, rfl, mj_t6 (i := 148) rfl rfl, mj_t6 (i := 147) rfl rfl, mj_sel6 (i := 8) rfl⟩)⟩⟩
set_option maxRecDepth 20000 in
theorem mj_q172 : mj_Q 172 (⟨"PacketSieveModel", "task", "(IJI)V"⟩, prog_13_method_44_code, 5, none, 11, []) := ⟨by decide, rfl, by decide +kernel, Or.inr ⟨mj_in_Model, Or.inr (Or.inl ⟨rfl, rfl, mj_t6 (i := 152) rfl rfl, mj_t6 (i := 151) rfl rfl, mj_sel6 (i := 9) rfl⟩)⟩⟩
set_option maxRecDepth 20000 in
theorem mj_q173 : mj_Q 173 (⟨"PacketSieveModel", "unfold", "(IJ)V"⟩, prog_13_method_45_code, 6, none, 11, []) := ⟨by decide, rfl, by decide +kernel, Or.inr ⟨mj_in_Model, Or.inr (Or.inl ⟨rfl, rfl, mj_t6 (i := 156) rfl rfl, mj_t6 (i := 155) rfl rfl, mj_sel6 (i := 10) rfl⟩)⟩⟩
set_option maxRecDepth 20000 in
theorem mj_q174 : mj_Q 174 (⟨"PacketSieveModel", "unfoldAccess", "(IJ)V"⟩, prog_13_method_46_code, 6, none, 11, []) := ⟨by decide, rfl, by decide +kernel, Or.inr ⟨mj_in_Model, Or.inr (Or.inl ⟨rfl, rfl, mj_t6 (i := 160) rfl rfl, mj_t6 (i := 159) rfl rfl, mj_sel6 (i := 11) rfl⟩)⟩⟩
set_option maxRecDepth 20000 in
theorem mj_q175 : mj_Q 175 (⟨"PacketSieveModel", "takeProgram", "()V"⟩, prog_13_method_51_code, 2, none, 11, []) := ⟨by decide, rfl, by decide +kernel, Or.inr ⟨mj_in_Model, Or.inr (Or.inl ⟨rfl, rfl, mj_t6 (i := 164) rfl rfl, mj_t6 (i := 163) rfl rfl, mj_sel6 (i := 12) rfl⟩)⟩⟩
set_option maxRecDepth 20000 in
theorem mj_q176 : mj_Q 176 (⟨"PacketSieveModel", "way", "(II)I"⟩, prog_13_method_50_code, 3, (some .int), 11, []) := ⟨by decide, rfl, by decide +kernel, Or.inr ⟨mj_in_Model, Or.inr (Or.inl ⟨rfl, rfl, mj_t6 (i := 168) rfl rfl, mj_t6 (i := 167) rfl rfl, mj_sel6 (i := 13) rfl⟩)⟩⟩
set_option maxRecDepth 20000 in
theorem mj_q177 : mj_Q 177 (⟨"PacketSieveModel", "instruction", "(II)I"⟩, prog_13_method_53_code, 3, (some .int), 11, []) := ⟨by decide, rfl, by decide +kernel, Or.inr ⟨mj_in_Model, Or.inr (Or.inl ⟨rfl, rfl, mj_t6 (i := 172) rfl rfl, mj_t6 (i := 170) rfl rfl, mj_t6 (i := 171) rfl rfl⟩)⟩⟩
set_option maxRecDepth 20000 in
theorem mj_q178 : mj_Q 178 (⟨"PacketSieveModel", "put", "(JI)I"⟩, prog_13_method_54_code, 5, (some .int), 11, []) := ⟨by decide, rfl, by decide +kernel, Or.inr ⟨mj_in_Model, Or.inr (Or.inl ⟨rfl, rfl, mj_t6 (i := 176) rfl rfl, mj_t6 (i := 174) rfl rfl, mj_t6 (i := 175) rfl rfl⟩)⟩⟩
set_option maxRecDepth 20000 in
theorem mj_q179 : mj_Q 179 (⟨"PacketSieveModel", "cut", "(I)I"⟩, prog_13_method_55_code, 3, (some .int), 11, []) := ⟨by decide, rfl, by decide +kernel, Or.inr ⟨mj_in_Model, Or.inr (Or.inl ⟨rfl, rfl, mj_t6 (i := 180) rfl rfl, mj_t6 (i := 178) rfl rfl, mj_t6 (i := 179) rfl rfl⟩)⟩⟩
set_option maxRecDepth 20000 in
theorem mj_q180 : mj_Q 180 (⟨"PacketSieveModel", "set", "(II)I"⟩, prog_13_method_56_code, 4, (some .int), 11, []) := ⟨by decide, rfl, by decide +kernel, Or.inr ⟨mj_in_Model, Or.inr (Or.inl ⟨rfl, rfl, mj_t6 (i := 184) rfl rfl, mj_t6 (i := 182) rfl rfl, mj_t6 (i := 183) rfl rfl⟩)⟩⟩
set_option maxRecDepth 20000 in
theorem mj_q181 : mj_Q 181 (⟨"PacketSieveModel", "holds", "()I"⟩, prog_13_method_69_code, 2, (some .int), 11, []) := ⟨by decide, rfl, by decide +kernel, Or.inr ⟨mj_in_Model, Or.inr (Or.inl ⟨rfl, rfl, mj_t6 (i := 188) rfl rfl, mj_t6 (i := 186) rfl rfl, mj_t6 (i := 187) rfl rfl⟩)⟩⟩
set_option maxRecDepth 20000 in
theorem mj_q182 : mj_Q 182 (⟨"PacketSieveModel", "isLeaf", "(I)Z"⟩, prog_13_method_68_code, 2, (some .boolean), 11, []) := ⟨by decide, rfl, by decide +kernel, Or.inr ⟨mj_in_Model, Or.inr (Or.inl ⟨rfl, rfl, mj_t6 (i := 192) rfl rfl, mj_t6 (i := 191) rfl rfl, mj_sel6 (i := 14) rfl⟩)⟩⟩
set_option maxRecDepth 20000 in
theorem mj_q183 : mj_Q 183 (⟨"PacketSieveModel", "isIp", "()Z"⟩, prog_13_method_59_code, 1, (some .boolean), 11, []) := ⟨by decide, rfl, by decide +kernel, Or.inr ⟨mj_in_Model, Or.inr (Or.inl ⟨rfl, rfl, mj_t6 (i := 196) rfl rfl, mj_t6 (i := 195) rfl rfl, mj_sel6 (i := 15) rfl⟩)⟩⟩
set_option maxRecDepth 20000 in
theorem mj_q184 : mj_Q 184 (⟨"PacketSieveModel", "field", "(JI)J"⟩, prog_13_method_57_code, 7, (some .long), 11, []) := ⟨by decide, rfl, by decide +kernel, Or.inr ⟨mj_in_Model, Or.inr (Or.inl ⟨rfl, rfl, mj_t6 (i := 200) rfl rfl, mj_t6 (i := 199) rfl rfl, mj_sel7 (i := 0) rfl⟩)⟩⟩
set_option maxRecDepth 20000 in
theorem mj_q185 : mj_Q 185 (⟨"PacketSieveModel", "is", "(I)Z"⟩, prog_13_method_60_code, 2, (some .boolean), 11, []) := ⟨by decide, rfl, by decide +kernel, Or.inr ⟨mj_in_Model, Or.inr (Or.inl ⟨rfl, rfl, mj_t6 (i := 204) rfl rfl, mj_t6 (i := 203) rfl rfl, mj_sel7 (i := 1) rfl⟩)⟩⟩
set_option maxRecDepth 20000 in
theorem mj_q186 : mj_Q 186 (⟨"PacketSieveModel", "isPort", "(I)Z"⟩, prog_13_method_64_code, 6, (some .boolean), 11, []) := ⟨by decide, rfl, by decide +kernel, Or.inr ⟨mj_in_Model, Or.inr (Or.inl ⟨rfl, rfl, mj_t6 (i := 208) rfl rfl, mj_t6 (i := 207) rfl rfl, mj_sel7 (i := 2) rfl⟩)⟩⟩
set_option maxRecDepth 20000 in
theorem mj_q187 : mj_Q 187 (⟨"PacketSieveModel", "isWhole", "()Z"⟩, prog_13_method_61_code, 1, (some .boolean), 11, []) := ⟨by decide, rfl, by decide +kernel, Or.inr ⟨mj_in_Model, Or.inr (Or.inl ⟨rfl, rfl, mj_t6 (i := 212) rfl rfl, mj_t6 (i := 211) rfl rfl, mj_sel7 (i := 3) rfl⟩)⟩⟩
set_option maxRecDepth 20000 in
theorem mj_q188 : mj_Q 188 (⟨"PacketSieveModel", "head", "()J"⟩, prog_13_method_62_code, 1, (some .long), 11, []) := ⟨by decide, rfl, by decide +kernel, Or.inr ⟨mj_in_Model, Or.inr (Or.inl ⟨rfl, rfl, mj_t6 (i := 216) rfl rfl, mj_t6 (i := 215) rfl rfl, mj_sel7 (i := 4) rfl⟩)⟩⟩
set_option maxRecDepth 20000 in
theorem mj_q189 : mj_Q 189 (⟨"PacketSieveModel", "isSide", "(IJJI)Z"⟩, prog_13_method_63_code, 10, (some .boolean), 11, []) := ⟨by decide, rfl, by decide +kernel, Or.inr ⟨mj_in_Model, Or.inr (Or.inl ⟨rfl, rfl, mj_t6 (i := 220) rfl rfl, mj_t6 (i := 219) rfl rfl, mj_sel7 (i := 5) rfl⟩)⟩⟩
set_option maxRecDepth 20000 in
theorem mj_q190 : mj_Q 190 (⟨"PacketSieveModel", "isRelated", "(I)Z"⟩, prog_13_method_67_code, 8, (some .boolean), 11, []) := ⟨by decide, rfl, by decide +kernel, Or.inr ⟨mj_in_Model, Or.inr (Or.inl ⟨rfl, rfl, mj_t6 (i := 224) rfl rfl, mj_t6 (i := 223) rfl rfl, mj_sel7 (i := 6) rfl⟩)⟩⟩
set_option maxRecDepth 20000 in
theorem mj_q191 : mj_Q 191 (⟨"PacketSieveModel", "hasOld", "(II)Z"⟩, prog_13_method_65_code, 5, (some .boolean), 11, []) := ⟨by decide, rfl, by decide +kernel, Or.inr ⟨mj_in_Model, Or.inr (Or.inl ⟨rfl, rfl, mj_t6 (i := 228) rfl rfl, mj_t6 (i := 227) rfl rfl, mj_sel7 (i := 7) rfl⟩)⟩⟩
set_option maxRecDepth 20000 in
theorem mj_q192 : mj_Q 192 (⟨"PacketSieveModel", "valueOf", "(I)J"⟩, prog_13_method_66_code, 6, (some .long), 11, []) := ⟨by decide, rfl, by decide +kernel, Or.inr ⟨mj_in_Model, Or.inr (Or.inl ⟨rfl, rfl, mj_t6 (i := 232) rfl rfl, mj_t6 (i := 231) rfl rfl, mj_sel7 (i := 8) rfl⟩)⟩⟩
set_option maxRecDepth 20000 in
theorem mj_q193 : mj_Q 193 (⟨"PacketSieveModel", "worked", "(IJJ)J"⟩, prog_13_method_58_code, 6, (some .long), 11, []) := ⟨by decide, rfl, by decide +kernel, Or.inr ⟨mj_in_Model, Or.inr (Or.inl ⟨rfl, rfl, mj_t6 (i := 236) rfl rfl, mj_t6 (i := 235) rfl rfl, mj_sel7 (i := 9) rfl⟩)⟩⟩
set_option maxRecDepth 20000 in
theorem mj_q194 : mj_Q 194 (⟨"PacketSieveModel", "run", "()I"⟩, prog_13_method_72_code, 5, (some .int), 11, []) := ⟨by decide, rfl, by decide +kernel, Or.inr ⟨mj_in_Model, Or.inr (Or.inl ⟨rfl, rfl, mj_t7 (i := 1) rfl rfl, mj_t6 (i := 239) rfl rfl, mj_t7 (i := 0) rfl rfl⟩)⟩⟩
set_option maxRecDepth 20000 in
theorem mj_q195 : mj_Q 195 (⟨"PacketSieveModel", "doIt", "(IJ)V"⟩, prog_13_method_70_code, 6, none, 11, []) := ⟨by decide, rfl, by decide +kernel, Or.inr ⟨mj_in_Model, Or.inr (Or.inl ⟨rfl, rfl, mj_t7 (i := 5) rfl rfl, mj_t7 (i := 4) rfl rfl, mj_sel7 (i := 10) rfl⟩)⟩⟩
set_option maxRecDepth 20000 in
theorem mj_q196 : mj_Q 196 (⟨"PacketSieveModel", "isSo", "(IJ)Z"⟩, prog_13_method_71_code, 7, (some .boolean), 11, []) := ⟨by decide, rfl, by decide +kernel, Or.inr ⟨mj_in_Model, Or.inr (Or.inl ⟨rfl, rfl, mj_t7 (i := 9) rfl rfl, mj_t7 (i := 8) rfl rfl, mj_sel7 (i := 11) rfl⟩)⟩⟩
set_option maxRecDepth 20000 in
theorem mj_q197 : mj_Q 197 (⟨"PacketSieveModel", "state", "(I)I"⟩, prog_13_method_73_code, 2, (some .int), 11, []) := ⟨by decide, rfl, by decide +kernel, Or.inr ⟨mj_in_Model, Or.inr (Or.inl ⟨rfl, rfl, mj_t7 (i := 13) rfl rfl, mj_t7 (i := 11) rfl rfl, mj_t7 (i := 12) rfl rfl⟩)⟩⟩
set_option maxRecDepth 20000 in
theorem mj_q198 : mj_Q 198 (⟨"PacketSieveLaw", "cell", "([II)I"⟩, method_2_code, 2, (some .int), 12, []) := ⟨by decide, rfl, by decide +kernel, Or.inr ⟨mj_in_Law, Or.inl ⟨rfl, mj_t2 (i := 101) rfl rfl, Or.inl ⟨rfl, mj_t2 (i := 102) rfl rfl⟩⟩⟩⟩
set_option maxRecDepth 20000 in
theorem mj_q199 : mj_Q 199 (⟨"PacketSieveLaw", "type", "(LPacketSieve;JI[J)I"⟩, method_3_code, 6, (some .int), 12, [(0, 11, 14, 13), (0, 11, 18, 15)]) := ⟨by decide, rfl, by decide +kernel, Or.inr ⟨mj_in_Law, Or.inl ⟨rfl, mj_t2 (i := 104) rfl rfl, Or.inr (mj_t2 (i := 105) rfl rfl)⟩⟩⟩
set_option maxRecDepth 20000 in
theorem mj_q200 : mj_Q 200 (⟨"PacketSieveLaw", "compile", "(LPacketSieve;[J)I"⟩, method_4_code, 3, (some .int), 12, [(0, 8, 11, 13), (0, 8, 14, 21)]) := ⟨by decide, rfl, by decide +kernel, Or.inr ⟨mj_in_Law, Or.inl ⟨rfl, mj_t2 (i := 203) rfl rfl, Or.inr (mj_t2 (i := 204) rfl rfl)⟩⟩⟩
set_option maxRecDepth 20000 in
theorem mj_q201 : mj_Q 201 (⟨"PacketSieveLaw", "holds", "(LPacketSieve;[J)I"⟩, method_5_code, 3, (some .int), 12, [(0, 8, 11, 15)]) := ⟨by decide, rfl, by decide +kernel, Or.inr ⟨mj_in_Law, Or.inl ⟨rfl, mj_t4 (i := 76) rfl rfl, Or.inr (mj_t4 (i := 77) rfl rfl)⟩⟩⟩
set_option maxRecDepth 20000 in
theorem mj_q202 : mj_Q 202 (⟨"PacketSieveLaw", "run", "(LPacketSieve;[J)I"⟩, method_6_code, 3, (some .int), 12, [(0, 8, 11, 15)]) := ⟨by decide, rfl, by decide +kernel, Or.inr ⟨mj_in_Law, Or.inl ⟨rfl, mj_t4 (i := 169) rfl rfl, Or.inr (mj_t4 (i := 170) rfl rfl)⟩⟩⟩
theorem mj_q203 : mj_Q 203 (⟨"PacketSieveLaw", "law", "([I)Z"⟩, code, 7, (some .boolean), 12, []) := ⟨by decide, rfl, by decide +kernel, Or.inl rfl⟩
theorem mj_qc0 : ∀ (i : Nat) (X : mj_X), mj_mt0[i]? = some X → mj_Q (0 + i) X := fun i X h => match i, h with
  | 0, h => by cases h; exact mj_q0
  | 1, h => by cases h; exact mj_q1
  | 2, h => by cases h; exact mj_q2
  | 3, h => by cases h; exact mj_q3
  | 4, h => by cases h; exact mj_q4
  | 5, h => by cases h; exact mj_q5
  | 6, h => by cases h; exact mj_q6
  | 7, h => by cases h; exact mj_q7
  | 8, h => by cases h; exact mj_q8
  | 9, h => by cases h; exact mj_q9
  | 10, h => by cases h; exact mj_q10
  | 11, h => by cases h; exact mj_q11
  | i + 12, h => by simp [mj_mt0] at h
theorem mj_qc1 : ∀ (i : Nat) (X : mj_X), mj_mt1[i]? = some X → mj_Q (12 + i) X := fun i X h => match i, h with
  | 0, h => by cases h; exact mj_q12
  | 1, h => by cases h; exact mj_q13
  | 2, h => by cases h; exact mj_q14
  | 3, h => by cases h; exact mj_q15
  | 4, h => by cases h; exact mj_q16
  | 5, h => by cases h; exact mj_q17
  | 6, h => by cases h; exact mj_q18
  | 7, h => by cases h; exact mj_q19
  | 8, h => by cases h; exact mj_q20
  | 9, h => by cases h; exact mj_q21
  | 10, h => by cases h; exact mj_q22
  | 11, h => by cases h; exact mj_q23
  | i + 12, h => by simp [mj_mt1] at h
theorem mj_qc2 : ∀ (i : Nat) (X : mj_X), mj_mt2[i]? = some X → mj_Q (24 + i) X := fun i X h => match i, h with
  | 0, h => by cases h; exact mj_q24
  | 1, h => by cases h; exact mj_q25
  | 2, h => by cases h; exact mj_q26
  | 3, h => by cases h; exact mj_q27
  | 4, h => by cases h; exact mj_q28
  | 5, h => by cases h; exact mj_q29
  | 6, h => by cases h; exact mj_q30
  | 7, h => by cases h; exact mj_q31
  | 8, h => by cases h; exact mj_q32
  | 9, h => by cases h; exact mj_q33
  | 10, h => by cases h; exact mj_q34
  | 11, h => by cases h; exact mj_q35
  | i + 12, h => by simp [mj_mt2] at h
theorem mj_qc3 : ∀ (i : Nat) (X : mj_X), mj_mt3[i]? = some X → mj_Q (36 + i) X := fun i X h => match i, h with
  | 0, h => by cases h; exact mj_q36
  | 1, h => by cases h; exact mj_q37
  | 2, h => by cases h; exact mj_q38
  | 3, h => by cases h; exact mj_q39
  | 4, h => by cases h; exact mj_q40
  | 5, h => by cases h; exact mj_q41
  | 6, h => by cases h; exact mj_q42
  | 7, h => by cases h; exact mj_q43
  | 8, h => by cases h; exact mj_q44
  | 9, h => by cases h; exact mj_q45
  | 10, h => by cases h; exact mj_q46
  | 11, h => by cases h; exact mj_q47
  | i + 12, h => by simp [mj_mt3] at h
theorem mj_qc4 : ∀ (i : Nat) (X : mj_X), mj_mt4[i]? = some X → mj_Q (48 + i) X := fun i X h => match i, h with
  | 0, h => by cases h; exact mj_q48
  | 1, h => by cases h; exact mj_q49
  | 2, h => by cases h; exact mj_q50
  | 3, h => by cases h; exact mj_q51
  | 4, h => by cases h; exact mj_q52
  | 5, h => by cases h; exact mj_q53
  | 6, h => by cases h; exact mj_q54
  | 7, h => by cases h; exact mj_q55
  | 8, h => by cases h; exact mj_q56
  | 9, h => by cases h; exact mj_q57
  | 10, h => by cases h; exact mj_q58
  | 11, h => by cases h; exact mj_q59
  | i + 12, h => by simp [mj_mt4] at h
theorem mj_qc5 : ∀ (i : Nat) (X : mj_X), mj_mt5[i]? = some X → mj_Q (60 + i) X := fun i X h => match i, h with
  | 0, h => by cases h; exact mj_q60
  | 1, h => by cases h; exact mj_q61
  | 2, h => by cases h; exact mj_q62
  | 3, h => by cases h; exact mj_q63
  | 4, h => by cases h; exact mj_q64
  | 5, h => by cases h; exact mj_q65
  | 6, h => by cases h; exact mj_q66
  | 7, h => by cases h; exact mj_q67
  | 8, h => by cases h; exact mj_q68
  | 9, h => by cases h; exact mj_q69
  | 10, h => by cases h; exact mj_q70
  | 11, h => by cases h; exact mj_q71
  | i + 12, h => by simp [mj_mt5] at h
theorem mj_qc6 : ∀ (i : Nat) (X : mj_X), mj_mt6[i]? = some X → mj_Q (72 + i) X := fun i X h => match i, h with
  | 0, h => by cases h; exact mj_q72
  | 1, h => by cases h; exact mj_q73
  | 2, h => by cases h; exact mj_q74
  | 3, h => by cases h; exact mj_q75
  | 4, h => by cases h; exact mj_q76
  | 5, h => by cases h; exact mj_q77
  | 6, h => by cases h; exact mj_q78
  | 7, h => by cases h; exact mj_q79
  | 8, h => by cases h; exact mj_q80
  | 9, h => by cases h; exact mj_q81
  | 10, h => by cases h; exact mj_q82
  | 11, h => by cases h; exact mj_q83
  | i + 12, h => by simp [mj_mt6] at h
theorem mj_qc7 : ∀ (i : Nat) (X : mj_X), mj_mt7[i]? = some X → mj_Q (84 + i) X := fun i X h => match i, h with
  | 0, h => by cases h; exact mj_q84
  | 1, h => by cases h; exact mj_q85
  | 2, h => by cases h; exact mj_q86
  | 3, h => by cases h; exact mj_q87
  | 4, h => by cases h; exact mj_q88
  | 5, h => by cases h; exact mj_q89
  | 6, h => by cases h; exact mj_q90
  | 7, h => by cases h; exact mj_q91
  | 8, h => by cases h; exact mj_q92
  | 9, h => by cases h; exact mj_q93
  | 10, h => by cases h; exact mj_q94
  | 11, h => by cases h; exact mj_q95
  | i + 12, h => by simp [mj_mt7] at h
theorem mj_qc8 : ∀ (i : Nat) (X : mj_X), mj_mt8[i]? = some X → mj_Q (96 + i) X := fun i X h => match i, h with
  | 0, h => by cases h; exact mj_q96
  | 1, h => by cases h; exact mj_q97
  | 2, h => by cases h; exact mj_q98
  | 3, h => by cases h; exact mj_q99
  | 4, h => by cases h; exact mj_q100
  | 5, h => by cases h; exact mj_q101
  | 6, h => by cases h; exact mj_q102
  | 7, h => by cases h; exact mj_q103
  | 8, h => by cases h; exact mj_q104
  | 9, h => by cases h; exact mj_q105
  | 10, h => by cases h; exact mj_q106
  | 11, h => by cases h; exact mj_q107
  | i + 12, h => by simp [mj_mt8] at h
theorem mj_qc9 : ∀ (i : Nat) (X : mj_X), mj_mt9[i]? = some X → mj_Q (108 + i) X := fun i X h => match i, h with
  | 0, h => by cases h; exact mj_q108
  | 1, h => by cases h; exact mj_q109
  | 2, h => by cases h; exact mj_q110
  | 3, h => by cases h; exact mj_q111
  | 4, h => by cases h; exact mj_q112
  | 5, h => by cases h; exact mj_q113
  | 6, h => by cases h; exact mj_q114
  | 7, h => by cases h; exact mj_q115
  | 8, h => by cases h; exact mj_q116
  | 9, h => by cases h; exact mj_q117
  | 10, h => by cases h; exact mj_q118
  | 11, h => by cases h; exact mj_q119
  | i + 12, h => by simp [mj_mt9] at h
theorem mj_qc10 : ∀ (i : Nat) (X : mj_X), mj_mt10[i]? = some X → mj_Q (120 + i) X := fun i X h => match i, h with
  | 0, h => by cases h; exact mj_q120
  | 1, h => by cases h; exact mj_q121
  | 2, h => by cases h; exact mj_q122
  | 3, h => by cases h; exact mj_q123
  | 4, h => by cases h; exact mj_q124
  | 5, h => by cases h; exact mj_q125
  | 6, h => by cases h; exact mj_q126
  | 7, h => by cases h; exact mj_q127
  | 8, h => by cases h; exact mj_q128
  | 9, h => by cases h; exact mj_q129
  | 10, h => by cases h; exact mj_q130
  | 11, h => by cases h; exact mj_q131
  | i + 12, h => by simp [mj_mt10] at h
theorem mj_qc11 : ∀ (i : Nat) (X : mj_X), mj_mt11[i]? = some X → mj_Q (132 + i) X := fun i X h => match i, h with
  | 0, h => by cases h; exact mj_q132
  | 1, h => by cases h; exact mj_q133
  | 2, h => by cases h; exact mj_q134
  | 3, h => by cases h; exact mj_q135
  | 4, h => by cases h; exact mj_q136
  | 5, h => by cases h; exact mj_q137
  | 6, h => by cases h; exact mj_q138
  | 7, h => by cases h; exact mj_q139
  | 8, h => by cases h; exact mj_q140
  | 9, h => by cases h; exact mj_q141
  | 10, h => by cases h; exact mj_q142
  | 11, h => by cases h; exact mj_q143
  | i + 12, h => by simp [mj_mt11] at h
theorem mj_qc12 : ∀ (i : Nat) (X : mj_X), mj_mt12[i]? = some X → mj_Q (144 + i) X := fun i X h => match i, h with
  | 0, h => by cases h; exact mj_q144
  | 1, h => by cases h; exact mj_q145
  | 2, h => by cases h; exact mj_q146
  | 3, h => by cases h; exact mj_q147
  | 4, h => by cases h; exact mj_q148
  | 5, h => by cases h; exact mj_q149
  | 6, h => by cases h; exact mj_q150
  | 7, h => by cases h; exact mj_q151
  | 8, h => by cases h; exact mj_q152
  | 9, h => by cases h; exact mj_q153
  | 10, h => by cases h; exact mj_q154
  | 11, h => by cases h; exact mj_q155
  | i + 12, h => by simp [mj_mt12] at h
theorem mj_qc13 : ∀ (i : Nat) (X : mj_X), mj_mt13[i]? = some X → mj_Q (156 + i) X := fun i X h => match i, h with
  | 0, h => by cases h; exact mj_q156
  | 1, h => by cases h; exact mj_q157
  | 2, h => by cases h; exact mj_q158
  | 3, h => by cases h; exact mj_q159
  | 4, h => by cases h; exact mj_q160
  | 5, h => by cases h; exact mj_q161
  | 6, h => by cases h; exact mj_q162
  | 7, h => by cases h; exact mj_q163
  | 8, h => by cases h; exact mj_q164
  | 9, h => by cases h; exact mj_q165
  | 10, h => by cases h; exact mj_q166
  | 11, h => by cases h; exact mj_q167
  | i + 12, h => by simp [mj_mt13] at h
theorem mj_qc14 : ∀ (i : Nat) (X : mj_X), mj_mt14[i]? = some X → mj_Q (168 + i) X := fun i X h => match i, h with
  | 0, h => by cases h; exact mj_q168
  | 1, h => by cases h; exact mj_q169
  | 2, h => by cases h; exact mj_q170
  | 3, h => by cases h; exact mj_q171
  | 4, h => by cases h; exact mj_q172
  | 5, h => by cases h; exact mj_q173
  | 6, h => by cases h; exact mj_q174
  | 7, h => by cases h; exact mj_q175
  | 8, h => by cases h; exact mj_q176
  | 9, h => by cases h; exact mj_q177
  | 10, h => by cases h; exact mj_q178
  | 11, h => by cases h; exact mj_q179
  | i + 12, h => by simp [mj_mt14] at h
theorem mj_qc15 : ∀ (i : Nat) (X : mj_X), mj_mt15[i]? = some X → mj_Q (180 + i) X := fun i X h => match i, h with
  | 0, h => by cases h; exact mj_q180
  | 1, h => by cases h; exact mj_q181
  | 2, h => by cases h; exact mj_q182
  | 3, h => by cases h; exact mj_q183
  | 4, h => by cases h; exact mj_q184
  | 5, h => by cases h; exact mj_q185
  | 6, h => by cases h; exact mj_q186
  | 7, h => by cases h; exact mj_q187
  | 8, h => by cases h; exact mj_q188
  | 9, h => by cases h; exact mj_q189
  | 10, h => by cases h; exact mj_q190
  | 11, h => by cases h; exact mj_q191
  | i + 12, h => by simp [mj_mt15] at h
theorem mj_qc16 : ∀ (i : Nat) (X : mj_X), mj_mt16[i]? = some X → mj_Q (192 + i) X := fun i X h => match i, h with
  | 0, h => by cases h; exact mj_q192
  | 1, h => by cases h; exact mj_q193
  | 2, h => by cases h; exact mj_q194
  | 3, h => by cases h; exact mj_q195
  | 4, h => by cases h; exact mj_q196
  | 5, h => by cases h; exact mj_q197
  | 6, h => by cases h; exact mj_q198
  | 7, h => by cases h; exact mj_q199
  | 8, h => by cases h; exact mj_q200
  | 9, h => by cases h; exact mj_q201
  | 10, h => by cases h; exact mj_q202
  | 11, h => by cases h; exact mj_q203
  | i + 12, h => by simp [mj_mt16] at h
theorem mj_Qall : ∀ (k : Nat) (X : mj_X), mj_mt k = some X → mj_Q k X := by
  intro k X h
  unfold mj_mt at h
  have hk : k = 12 * (k / 12) + k % 12 := (Nat.div_add_mod k 12).symm
  generalize k / 12 = j at h hk
  generalize k % 12 = i at h hk
  subst hk
  match j, h with
  | 0, h => exact mj_qc0 i X h
  | 1, h => exact mj_qc1 i X h
  | 2, h => exact mj_qc2 i X h
  | 3, h => exact mj_qc3 i X h
  | 4, h => exact mj_qc4 i X h
  | 5, h => exact mj_qc5 i X h
  | 6, h => exact mj_qc6 i X h
  | 7, h => exact mj_qc7 i X h
  | 8, h => exact mj_qc8 i X h
  | 9, h => exact mj_qc9 i X h
  | 10, h => exact mj_qc10 i X h
  | 11, h => exact mj_qc11 i X h
  | 12, h => exact mj_qc12 i X h
  | 13, h => exact mj_qc13 i X h
  | 14, h => exact mj_qc14 i X h
  | 15, h => exact mj_qc15 i X h
  | 16, h => exact mj_qc16 i X h
  | j + 17, h => simp [mj_mts] at h
