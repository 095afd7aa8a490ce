abbrev mj_fc : List Cond := flatC (Jvm.Cond.and given_1 narrow_1)
def mj_tm (i : Nat) : Term := match mj_str[i]? with
  | some q => .string (mj_cn q.1) q.2.1
  | none => .null
set_option maxRecDepth 100000 in
theorem nf_p0_1 : Cond.not (Cond.eq (Term.string "PacketSieve$Tokens" (71 : Nat)) (Term.string "PacketSieve$Tokens" (77 : Nat))) ∈ mj_fc := List.mem_of_getElem? (i := 66) rfl
set_option maxRecDepth 100000 in
theorem nf_p0_2 : Cond.not (Cond.eq (Term.string "PacketSieve$Tokens" (71 : Nat)) (Term.string "PacketSieve$Tokens" (79 : Nat))) ∈ mj_fc := List.mem_of_getElem? (i := 74) rfl
set_option maxRecDepth 100000 in
theorem nf_p0_3 : Cond.not (Cond.eq (Term.string "PacketSieve$Tokens" (71 : Nat)) (Term.string "PacketSieve$Tokens" (81 : Nat))) ∈ mj_fc := List.mem_of_getElem? (i := 85) rfl
set_option maxRecDepth 100000 in
theorem nf_p0_4 : Cond.not (Cond.eq (Term.string "PacketSieve$Tokens" (71 : Nat)) (Term.string "PacketSieve$Tokens" (83 : Nat))) ∈ mj_fc := List.mem_of_getElem? (i := 95) rfl
set_option maxRecDepth 100000 in
theorem nf_p0_5 : Cond.not (Cond.eq (Term.string "PacketSieve$Tokens" (71 : Nat)) (Term.string "PacketSieve$Tokens" (85 : Nat))) ∈ mj_fc := List.mem_of_getElem? (i := 106) rfl
set_option maxRecDepth 100000 in
theorem nf_p0_6 : Cond.not (Cond.eq (Term.string "PacketSieve$Tokens" (71 : Nat)) (Term.string "PacketSieve$Tokens" (87 : Nat))) ∈ mj_fc := List.mem_of_getElem? (i := 118) rfl
set_option maxRecDepth 100000 in
theorem nf_p0_7 : Cond.not (Cond.eq (Term.string "PacketSieve$Tokens" (71 : Nat)) (Term.string "PacketSieve$Tokens" (89 : Nat))) ∈ mj_fc := List.mem_of_getElem? (i := 132) rfl
set_option maxRecDepth 100000 in
theorem nf_p0_8 : Cond.not (Cond.eq (Term.string "PacketSieve$Tokens" (71 : Nat)) (Term.string "PacketSieve$Tokens" (91 : Nat))) ∈ mj_fc := List.mem_of_getElem? (i := 146) rfl
set_option maxRecDepth 100000 in
theorem nf_p0_9 : Cond.not (Cond.eq (Term.string "PacketSieve$Tokens" (71 : Nat)) (Term.string "PacketSieve$Tokens" (93 : Nat))) ∈ mj_fc := List.mem_of_getElem? (i := 162) rfl
set_option maxRecDepth 100000 in
theorem nf_p0_10 : Cond.not (Cond.eq (Term.string "PacketSieve$Tokens" (71 : Nat)) (Term.string "PacketSieve$Tokens" (95 : Nat))) ∈ mj_fc := List.mem_of_getElem? (i := 178) rfl
set_option maxRecDepth 100000 in
theorem nf_p0_11 : Cond.not (Cond.eq (Term.string "PacketSieve$Tokens" (71 : Nat)) (Term.string "PacketSieve$Tokens" (97 : Nat))) ∈ mj_fc := List.mem_of_getElem? (i := 194) rfl
set_option maxRecDepth 100000 in
theorem nf_p0_12 : Cond.not (Cond.eq (Term.string "PacketSieve$Tokens" (71 : Nat)) (Term.string "PacketSieve$Tokens" (99 : Nat))) ∈ mj_fc := List.mem_of_getElem? (i := 212) rfl
set_option maxRecDepth 100000 in
theorem nf_p1_2 : Cond.not (Cond.eq (Term.string "PacketSieve$Tokens" (77 : Nat)) (Term.string "PacketSieve$Tokens" (79 : Nat))) ∈ mj_fc := List.mem_of_getElem? (i := 75) rfl
set_option maxRecDepth 100000 in
theorem nf_p1_3 : Cond.not (Cond.eq (Term.string "PacketSieve$Tokens" (77 : Nat)) (Term.string "PacketSieve$Tokens" (81 : Nat))) ∈ mj_fc := List.mem_of_getElem? (i := 86) rfl
set_option maxRecDepth 100000 in
theorem nf_p1_4 : Cond.not (Cond.eq (Term.string "PacketSieve$Tokens" (77 : Nat)) (Term.string "PacketSieve$Tokens" (83 : Nat))) ∈ mj_fc := List.mem_of_getElem? (i := 96) rfl
set_option maxRecDepth 100000 in
theorem nf_p1_5 : Cond.not (Cond.eq (Term.string "PacketSieve$Tokens" (77 : Nat)) (Term.string "PacketSieve$Tokens" (85 : Nat))) ∈ mj_fc := List.mem_of_getElem? (i := 107) rfl
set_option maxRecDepth 100000 in
theorem nf_p1_6 : Cond.not (Cond.eq (Term.string "PacketSieve$Tokens" (77 : Nat)) (Term.string "PacketSieve$Tokens" (87 : Nat))) ∈ mj_fc := List.mem_of_getElem? (i := 119) rfl
set_option maxRecDepth 100000 in
theorem nf_p1_7 : Cond.not (Cond.eq (Term.string "PacketSieve$Tokens" (77 : Nat)) (Term.string "PacketSieve$Tokens" (89 : Nat))) ∈ mj_fc := List.mem_of_getElem? (i := 133) rfl
set_option maxRecDepth 100000 in
theorem nf_p1_8 : Cond.not (Cond.eq (Term.string "PacketSieve$Tokens" (77 : Nat)) (Term.string "PacketSieve$Tokens" (91 : Nat))) ∈ mj_fc := List.mem_of_getElem? (i := 147) rfl
set_option maxRecDepth 100000 in
theorem nf_p1_9 : Cond.not (Cond.eq (Term.string "PacketSieve$Tokens" (77 : Nat)) (Term.string "PacketSieve$Tokens" (93 : Nat))) ∈ mj_fc := List.mem_of_getElem? (i := 163) rfl
set_option maxRecDepth 100000 in
theorem nf_p1_10 : Cond.not (Cond.eq (Term.string "PacketSieve$Tokens" (77 : Nat)) (Term.string "PacketSieve$Tokens" (95 : Nat))) ∈ mj_fc := List.mem_of_getElem? (i := 179) rfl
set_option maxRecDepth 100000 in
theorem nf_p1_11 : Cond.not (Cond.eq (Term.string "PacketSieve$Tokens" (77 : Nat)) (Term.string "PacketSieve$Tokens" (97 : Nat))) ∈ mj_fc := List.mem_of_getElem? (i := 195) rfl
set_option maxRecDepth 100000 in
theorem nf_p1_12 : Cond.not (Cond.eq (Term.string "PacketSieve$Tokens" (77 : Nat)) (Term.string "PacketSieve$Tokens" (99 : Nat))) ∈ mj_fc := List.mem_of_getElem? (i := 213) rfl
set_option maxRecDepth 100000 in
theorem nf_p2_3 : Cond.not (Cond.eq (Term.string "PacketSieve$Tokens" (79 : Nat)) (Term.string "PacketSieve$Tokens" (81 : Nat))) ∈ mj_fc := List.mem_of_getElem? (i := 87) rfl
set_option maxRecDepth 100000 in
theorem nf_p2_4 : Cond.not (Cond.eq (Term.string "PacketSieve$Tokens" (79 : Nat)) (Term.string "PacketSieve$Tokens" (83 : Nat))) ∈ mj_fc := List.mem_of_getElem? (i := 97) rfl
set_option maxRecDepth 100000 in
theorem nf_p2_5 : Cond.not (Cond.eq (Term.string "PacketSieve$Tokens" (79 : Nat)) (Term.string "PacketSieve$Tokens" (85 : Nat))) ∈ mj_fc := List.mem_of_getElem? (i := 108) rfl
set_option maxRecDepth 100000 in
theorem nf_p2_6 : Cond.not (Cond.eq (Term.string "PacketSieve$Tokens" (79 : Nat)) (Term.string "PacketSieve$Tokens" (87 : Nat))) ∈ mj_fc := List.mem_of_getElem? (i := 120) rfl
set_option maxRecDepth 100000 in
theorem nf_p2_7 : Cond.not (Cond.eq (Term.string "PacketSieve$Tokens" (79 : Nat)) (Term.string "PacketSieve$Tokens" (89 : Nat))) ∈ mj_fc := List.mem_of_getElem? (i := 134) rfl
set_option maxRecDepth 100000 in
theorem nf_p2_8 : Cond.not (Cond.eq (Term.string "PacketSieve$Tokens" (79 : Nat)) (Term.string "PacketSieve$Tokens" (91 : Nat))) ∈ mj_fc := List.mem_of_getElem? (i := 148) rfl
set_option maxRecDepth 100000 in
theorem nf_p2_9 : Cond.not (Cond.eq (Term.string "PacketSieve$Tokens" (79 : Nat)) (Term.string "PacketSieve$Tokens" (93 : Nat))) ∈ mj_fc := List.mem_of_getElem? (i := 164) rfl
set_option maxRecDepth 100000 in
theorem nf_p2_10 : Cond.not (Cond.eq (Term.string "PacketSieve$Tokens" (79 : Nat)) (Term.string "PacketSieve$Tokens" (95 : Nat))) ∈ mj_fc := List.mem_of_getElem? (i := 180) rfl
set_option maxRecDepth 100000 in
theorem nf_p2_11 : Cond.not (Cond.eq (Term.string "PacketSieve$Tokens" (79 : Nat)) (Term.string "PacketSieve$Tokens" (97 : Nat))) ∈ mj_fc := List.mem_of_getElem? (i := 196) rfl
set_option maxRecDepth 100000 in
theorem nf_p2_12 : Cond.not (Cond.eq (Term.string "PacketSieve$Tokens" (79 : Nat)) (Term.string "PacketSieve$Tokens" (99 : Nat))) ∈ mj_fc := List.mem_of_getElem? (i := 214) rfl
set_option maxRecDepth 100000 in
theorem nf_p3_4 : Cond.not (Cond.eq (Term.string "PacketSieve$Tokens" (81 : Nat)) (Term.string "PacketSieve$Tokens" (83 : Nat))) ∈ mj_fc := List.mem_of_getElem? (i := 98) rfl
set_option maxRecDepth 100000 in
theorem nf_p3_5 : Cond.not (Cond.eq (Term.string "PacketSieve$Tokens" (81 : Nat)) (Term.string "PacketSieve$Tokens" (85 : Nat))) ∈ mj_fc := List.mem_of_getElem? (i := 109) rfl
set_option maxRecDepth 100000 in
theorem nf_p3_6 : Cond.not (Cond.eq (Term.string "PacketSieve$Tokens" (81 : Nat)) (Term.string "PacketSieve$Tokens" (87 : Nat))) ∈ mj_fc := List.mem_of_getElem? (i := 121) rfl
set_option maxRecDepth 100000 in
theorem nf_p3_7 : Cond.not (Cond.eq (Term.string "PacketSieve$Tokens" (81 : Nat)) (Term.string "PacketSieve$Tokens" (89 : Nat))) ∈ mj_fc := List.mem_of_getElem? (i := 135) rfl
set_option maxRecDepth 100000 in
theorem nf_p3_8 : Cond.not (Cond.eq (Term.string "PacketSieve$Tokens" (81 : Nat)) (Term.string "PacketSieve$Tokens" (91 : Nat))) ∈ mj_fc := List.mem_of_getElem? (i := 149) rfl
set_option maxRecDepth 100000 in
theorem nf_p3_9 : Cond.not (Cond.eq (Term.string "PacketSieve$Tokens" (81 : Nat)) (Term.string "PacketSieve$Tokens" (93 : Nat))) ∈ mj_fc := List.mem_of_getElem? (i := 165) rfl
set_option maxRecDepth 100000 in
theorem nf_p3_10 : Cond.not (Cond.eq (Term.string "PacketSieve$Tokens" (81 : Nat)) (Term.string "PacketSieve$Tokens" (95 : Nat))) ∈ mj_fc := List.mem_of_getElem? (i := 181) rfl
set_option maxRecDepth 100000 in
theorem nf_p3_11 : Cond.not (Cond.eq (Term.string "PacketSieve$Tokens" (81 : Nat)) (Term.string "PacketSieve$Tokens" (97 : Nat))) ∈ mj_fc := List.mem_of_getElem? (i := 197) rfl
set_option maxRecDepth 100000 in
theorem nf_p3_12 : Cond.not (Cond.eq (Term.string "PacketSieve$Tokens" (81 : Nat)) (Term.string "PacketSieve$Tokens" (99 : Nat))) ∈ mj_fc := List.mem_of_getElem? (i := 215) rfl
set_option maxRecDepth 100000 in
theorem nf_p4_5 : Cond.not (Cond.eq (Term.string "PacketSieve$Tokens" (83 : Nat)) (Term.string "PacketSieve$Tokens" (85 : Nat))) ∈ mj_fc := List.mem_of_getElem? (i := 110) rfl
set_option maxRecDepth 100000 in
theorem nf_p4_6 : Cond.not (Cond.eq (Term.string "PacketSieve$Tokens" (83 : Nat)) (Term.string "PacketSieve$Tokens" (87 : Nat))) ∈ mj_fc := List.mem_of_getElem? (i := 122) rfl
set_option maxRecDepth 100000 in
theorem nf_p4_7 : Cond.not (Cond.eq (Term.string "PacketSieve$Tokens" (83 : Nat)) (Term.string "PacketSieve$Tokens" (89 : Nat))) ∈ mj_fc := List.mem_of_getElem? (i := 136) rfl
set_option maxRecDepth 100000 in
theorem nf_p4_8 : Cond.not (Cond.eq (Term.string "PacketSieve$Tokens" (83 : Nat)) (Term.string "PacketSieve$Tokens" (91 : Nat))) ∈ mj_fc := List.mem_of_getElem? (i := 150) rfl
set_option maxRecDepth 100000 in
theorem nf_p4_9 : Cond.not (Cond.eq (Term.string "PacketSieve$Tokens" (83 : Nat)) (Term.string "PacketSieve$Tokens" (93 : Nat))) ∈ mj_fc := List.mem_of_getElem? (i := 166) rfl
set_option maxRecDepth 100000 in
theorem nf_p4_10 : Cond.not (Cond.eq (Term.string "PacketSieve$Tokens" (83 : Nat)) (Term.string "PacketSieve$Tokens" (95 : Nat))) ∈ mj_fc := List.mem_of_getElem? (i := 182) rfl
set_option maxRecDepth 100000 in
theorem nf_p4_11 : Cond.not (Cond.eq (Term.string "PacketSieve$Tokens" (83 : Nat)) (Term.string "PacketSieve$Tokens" (97 : Nat))) ∈ mj_fc := List.mem_of_getElem? (i := 198) rfl
set_option maxRecDepth 100000 in
theorem nf_p4_12 : Cond.not (Cond.eq (Term.string "PacketSieve$Tokens" (83 : Nat)) (Term.string "PacketSieve$Tokens" (99 : Nat))) ∈ mj_fc := List.mem_of_getElem? (i := 216) rfl
set_option maxRecDepth 100000 in
theorem nf_p5_6 : Cond.not (Cond.eq (Term.string "PacketSieve$Tokens" (85 : Nat)) (Term.string "PacketSieve$Tokens" (87 : Nat))) ∈ mj_fc := List.mem_of_getElem? (i := 123) rfl
set_option maxRecDepth 100000 in
theorem nf_p5_7 : Cond.not (Cond.eq (Term.string "PacketSieve$Tokens" (85 : Nat)) (Term.string "PacketSieve$Tokens" (89 : Nat))) ∈ mj_fc := List.mem_of_getElem? (i := 137) rfl
set_option maxRecDepth 100000 in
theorem nf_p5_8 : Cond.not (Cond.eq (Term.string "PacketSieve$Tokens" (85 : Nat)) (Term.string "PacketSieve$Tokens" (91 : Nat))) ∈ mj_fc := List.mem_of_getElem? (i := 151) rfl
set_option maxRecDepth 100000 in
theorem nf_p5_9 : Cond.not (Cond.eq (Term.string "PacketSieve$Tokens" (85 : Nat)) (Term.string "PacketSieve$Tokens" (93 : Nat))) ∈ mj_fc := List.mem_of_getElem? (i := 167) rfl
set_option maxRecDepth 100000 in
theorem nf_p5_10 : Cond.not (Cond.eq (Term.string "PacketSieve$Tokens" (85 : Nat)) (Term.string "PacketSieve$Tokens" (95 : Nat))) ∈ mj_fc := List.mem_of_getElem? (i := 183) rfl
set_option maxRecDepth 100000 in
theorem nf_p5_11 : Cond.not (Cond.eq (Term.string "PacketSieve$Tokens" (85 : Nat)) (Term.string "PacketSieve$Tokens" (97 : Nat))) ∈ mj_fc := List.mem_of_getElem? (i := 199) rfl
set_option maxRecDepth 100000 in
theorem nf_p5_12 : Cond.not (Cond.eq (Term.string "PacketSieve$Tokens" (85 : Nat)) (Term.string "PacketSieve$Tokens" (99 : Nat))) ∈ mj_fc := List.mem_of_getElem? (i := 217) rfl
set_option maxRecDepth 100000 in
theorem nf_p6_7 : Cond.not (Cond.eq (Term.string "PacketSieve$Tokens" (87 : Nat)) (Term.string "PacketSieve$Tokens" (89 : Nat))) ∈ mj_fc := List.mem_of_getElem? (i := 138) rfl
set_option maxRecDepth 100000 in
theorem nf_p6_8 : Cond.not (Cond.eq (Term.string "PacketSieve$Tokens" (87 : Nat)) (Term.string "PacketSieve$Tokens" (91 : Nat))) ∈ mj_fc := List.mem_of_getElem? (i := 152) rfl
set_option maxRecDepth 100000 in
theorem nf_p6_9 : Cond.not (Cond.eq (Term.string "PacketSieve$Tokens" (87 : Nat)) (Term.string "PacketSieve$Tokens" (93 : Nat))) ∈ mj_fc := List.mem_of_getElem? (i := 168) rfl
set_option maxRecDepth 100000 in
theorem nf_p6_10 : Cond.not (Cond.eq (Term.string "PacketSieve$Tokens" (87 : Nat)) (Term.string "PacketSieve$Tokens" (95 : Nat))) ∈ mj_fc := List.mem_of_getElem? (i := 184) rfl
set_option maxRecDepth 100000 in
theorem nf_p6_11 : Cond.not (Cond.eq (Term.string "PacketSieve$Tokens" (87 : Nat)) (Term.string "PacketSieve$Tokens" (97 : Nat))) ∈ mj_fc := List.mem_of_getElem? (i := 200) rfl
set_option maxRecDepth 100000 in
theorem nf_p6_12 : Cond.not (Cond.eq (Term.string "PacketSieve$Tokens" (87 : Nat)) (Term.string "PacketSieve$Tokens" (99 : Nat))) ∈ mj_fc := List.mem_of_getElem? (i := 218) rfl
set_option maxRecDepth 100000 in
theorem nf_p7_8 : Cond.not (Cond.eq (Term.string "PacketSieve$Tokens" (89 : Nat)) (Term.string "PacketSieve$Tokens" (91 : Nat))) ∈ mj_fc := List.mem_of_getElem? (i := 153) rfl
set_option maxRecDepth 100000 in
theorem nf_p7_9 : Cond.not (Cond.eq (Term.string "PacketSieve$Tokens" (89 : Nat)) (Term.string "PacketSieve$Tokens" (93 : Nat))) ∈ mj_fc := List.mem_of_getElem? (i := 169) rfl
set_option maxRecDepth 100000 in
theorem nf_p7_10 : Cond.not (Cond.eq (Term.string "PacketSieve$Tokens" (89 : Nat)) (Term.string "PacketSieve$Tokens" (95 : Nat))) ∈ mj_fc := List.mem_of_getElem? (i := 185) rfl
set_option maxRecDepth 100000 in
theorem nf_p7_11 : Cond.not (Cond.eq (Term.string "PacketSieve$Tokens" (89 : Nat)) (Term.string "PacketSieve$Tokens" (97 : Nat))) ∈ mj_fc := List.mem_of_getElem? (i := 201) rfl
set_option maxRecDepth 100000 in
theorem nf_p7_12 : Cond.not (Cond.eq (Term.string "PacketSieve$Tokens" (89 : Nat)) (Term.string "PacketSieve$Tokens" (99 : Nat))) ∈ mj_fc := List.mem_of_getElem? (i := 219) rfl
set_option maxRecDepth 100000 in
theorem nf_p8_9 : Cond.not (Cond.eq (Term.string "PacketSieve$Tokens" (91 : Nat)) (Term.string "PacketSieve$Tokens" (93 : Nat))) ∈ mj_fc := List.mem_of_getElem? (i := 170) rfl
set_option maxRecDepth 100000 in
theorem nf_p8_10 : Cond.not (Cond.eq (Term.string "PacketSieve$Tokens" (91 : Nat)) (Term.string "PacketSieve$Tokens" (95 : Nat))) ∈ mj_fc := List.mem_of_getElem? (i := 186) rfl
set_option maxRecDepth 100000 in
theorem nf_p8_11 : Cond.not (Cond.eq (Term.string "PacketSieve$Tokens" (91 : Nat)) (Term.string "PacketSieve$Tokens" (97 : Nat))) ∈ mj_fc := List.mem_of_getElem? (i := 202) rfl
set_option maxRecDepth 100000 in
theorem nf_p8_12 : Cond.not (Cond.eq (Term.string "PacketSieve$Tokens" (91 : Nat)) (Term.string "PacketSieve$Tokens" (99 : Nat))) ∈ mj_fc := List.mem_of_getElem? (i := 220) rfl
set_option maxRecDepth 100000 in
theorem nf_p9_10 : Cond.not (Cond.eq (Term.string "PacketSieve$Tokens" (93 : Nat)) (Term.string "PacketSieve$Tokens" (95 : Nat))) ∈ mj_fc := List.mem_of_getElem? (i := 187) rfl
set_option maxRecDepth 100000 in
theorem nf_p9_11 : Cond.not (Cond.eq (Term.string "PacketSieve$Tokens" (93 : Nat)) (Term.string "PacketSieve$Tokens" (97 : Nat))) ∈ mj_fc := List.mem_of_getElem? (i := 203) rfl
set_option maxRecDepth 100000 in
theorem nf_p9_12 : Cond.not (Cond.eq (Term.string "PacketSieve$Tokens" (93 : Nat)) (Term.string "PacketSieve$Tokens" (99 : Nat))) ∈ mj_fc := List.mem_of_getElem? (i := 221) rfl
set_option maxRecDepth 100000 in
theorem nf_p10_11 : Cond.not (Cond.eq (Term.string "PacketSieve$Tokens" (95 : Nat)) (Term.string "PacketSieve$Tokens" (97 : Nat))) ∈ mj_fc := List.mem_of_getElem? (i := 204) rfl
set_option maxRecDepth 100000 in
theorem nf_p10_12 : Cond.not (Cond.eq (Term.string "PacketSieve$Tokens" (95 : Nat)) (Term.string "PacketSieve$Tokens" (99 : Nat))) ∈ mj_fc := List.mem_of_getElem? (i := 222) rfl
set_option maxRecDepth 100000 in
theorem nf_p11_12 : Cond.not (Cond.eq (Term.string "PacketSieve$Tokens" (97 : Nat)) (Term.string "PacketSieve$Tokens" (99 : Nat))) ∈ mj_fc := List.mem_of_getElem? (i := 223) rfl
theorem nf_r0 : ∀ j, j < 13 → 0 ≠ j → (Cond.not (Cond.eq (mj_tm 0) (mj_tm j)) ∈ mj_fc ∨ Cond.not (Cond.eq (mj_tm j) (mj_tm 0)) ∈ mj_fc) := fun j hj hn => match j, hj, hn with
  | 0, _, h => absurd rfl h
  | 1, _, _ => Or.inl nf_p0_1
  | 2, _, _ => Or.inl nf_p0_2
  | 3, _, _ => Or.inl nf_p0_3
  | 4, _, _ => Or.inl nf_p0_4
  | 5, _, _ => Or.inl nf_p0_5
  | 6, _, _ => Or.inl nf_p0_6
  | 7, _, _ => Or.inl nf_p0_7
  | 8, _, _ => Or.inl nf_p0_8
  | 9, _, _ => Or.inl nf_p0_9
  | 10, _, _ => Or.inl nf_p0_10
  | 11, _, _ => Or.inl nf_p0_11
  | 12, _, _ => Or.inl nf_p0_12
theorem nf_r1 : ∀ j, j < 13 → 1 ≠ j → (Cond.not (Cond.eq (mj_tm 1) (mj_tm j)) ∈ mj_fc ∨ Cond.not (Cond.eq (mj_tm j) (mj_tm 1)) ∈ mj_fc) := fun j hj hn => match j, hj, hn with
  | 0, _, _ => Or.inr nf_p0_1
  | 1, _, h => absurd rfl h
  | 2, _, _ => Or.inl nf_p1_2
  | 3, _, _ => Or.inl nf_p1_3
  | 4, _, _ => Or.inl nf_p1_4
  | 5, _, _ => Or.inl nf_p1_5
  | 6, _, _ => Or.inl nf_p1_6
  | 7, _, _ => Or.inl nf_p1_7
  | 8, _, _ => Or.inl nf_p1_8
  | 9, _, _ => Or.inl nf_p1_9
  | 10, _, _ => Or.inl nf_p1_10
  | 11, _, _ => Or.inl nf_p1_11
  | 12, _, _ => Or.inl nf_p1_12
theorem nf_r2 : ∀ j, j < 13 → 2 ≠ j → (Cond.not (Cond.eq (mj_tm 2) (mj_tm j)) ∈ mj_fc ∨ Cond.not (Cond.eq (mj_tm j) (mj_tm 2)) ∈ mj_fc) := fun j hj hn => match j, hj, hn with
  | 0, _, _ => Or.inr nf_p0_2
  | 1, _, _ => Or.inr nf_p1_2
  | 2, _, h => absurd rfl h
  | 3, _, _ => Or.inl nf_p2_3
  | 4, _, _ => Or.inl nf_p2_4
  | 5, _, _ => Or.inl nf_p2_5
  | 6, _, _ => Or.inl nf_p2_6
  | 7, _, _ => Or.inl nf_p2_7
  | 8, _, _ => Or.inl nf_p2_8
  | 9, _, _ => Or.inl nf_p2_9
  | 10, _, _ => Or.inl nf_p2_10
  | 11, _, _ => Or.inl nf_p2_11
  | 12, _, _ => Or.inl nf_p2_12
theorem nf_r3 : ∀ j, j < 13 → 3 ≠ j → (Cond.not (Cond.eq (mj_tm 3) (mj_tm j)) ∈ mj_fc ∨ Cond.not (Cond.eq (mj_tm j) (mj_tm 3)) ∈ mj_fc) := fun j hj hn => match j, hj, hn with
  | 0, _, _ => Or.inr nf_p0_3
  | 1, _, _ => Or.inr nf_p1_3
  | 2, _, _ => Or.inr nf_p2_3
  | 3, _, h => absurd rfl h
  | 4, _, _ => Or.inl nf_p3_4
  | 5, _, _ => Or.inl nf_p3_5
  | 6, _, _ => Or.inl nf_p3_6
  | 7, _, _ => Or.inl nf_p3_7
  | 8, _, _ => Or.inl nf_p3_8
  | 9, _, _ => Or.inl nf_p3_9
  | 10, _, _ => Or.inl nf_p3_10
  | 11, _, _ => Or.inl nf_p3_11
  | 12, _, _ => Or.inl nf_p3_12
theorem nf_r4 : ∀ j, j < 13 → 4 ≠ j → (Cond.not (Cond.eq (mj_tm 4) (mj_tm j)) ∈ mj_fc ∨ Cond.not (Cond.eq (mj_tm j) (mj_tm 4)) ∈ mj_fc) := fun j hj hn => match j, hj, hn with
  | 0, _, _ => Or.inr nf_p0_4
  | 1, _, _ => Or.inr nf_p1_4
  | 2, _, _ => Or.inr nf_p2_4
  | 3, _, _ => Or.inr nf_p3_4
  | 4, _, h => absurd rfl h
  | 5, _, _ => Or.inl nf_p4_5
  | 6, _, _ => Or.inl nf_p4_6
  | 7, _, _ => Or.inl nf_p4_7
  | 8, _, _ => Or.inl nf_p4_8
  | 9, _, _ => Or.inl nf_p4_9
  | 10, _, _ => Or.inl nf_p4_10
  | 11, _, _ => Or.inl nf_p4_11
  | 12, _, _ => Or.inl nf_p4_12
theorem nf_r5 : ∀ j, j < 13 → 5 ≠ j → (Cond.not (Cond.eq (mj_tm 5) (mj_tm j)) ∈ mj_fc ∨ Cond.not (Cond.eq (mj_tm j) (mj_tm 5)) ∈ mj_fc) := fun j hj hn => match j, hj, hn with
  | 0, _, _ => Or.inr nf_p0_5
  | 1, _, _ => Or.inr nf_p1_5
  | 2, _, _ => Or.inr nf_p2_5
  | 3, _, _ => Or.inr nf_p3_5
  | 4, _, _ => Or.inr nf_p4_5
  | 5, _, h => absurd rfl h
  | 6, _, _ => Or.inl nf_p5_6
  | 7, _, _ => Or.inl nf_p5_7
  | 8, _, _ => Or.inl nf_p5_8
  | 9, _, _ => Or.inl nf_p5_9
  | 10, _, _ => Or.inl nf_p5_10
  | 11, _, _ => Or.inl nf_p5_11
  | 12, _, _ => Or.inl nf_p5_12
theorem nf_r6 : ∀ j, j < 13 → 6 ≠ j → (Cond.not (Cond.eq (mj_tm 6) (mj_tm j)) ∈ mj_fc ∨ Cond.not (Cond.eq (mj_tm j) (mj_tm 6)) ∈ mj_fc) := fun j hj hn => match j, hj, hn with
  | 0, _, _ => Or.inr nf_p0_6
  | 1, _, _ => Or.inr nf_p1_6
  | 2, _, _ => Or.inr nf_p2_6
  | 3, _, _ => Or.inr nf_p3_6
  | 4, _, _ => Or.inr nf_p4_6
  | 5, _, _ => Or.inr nf_p5_6
  | 6, _, h => absurd rfl h
  | 7, _, _ => Or.inl nf_p6_7
  | 8, _, _ => Or.inl nf_p6_8
  | 9, _, _ => Or.inl nf_p6_9
  | 10, _, _ => Or.inl nf_p6_10
  | 11, _, _ => Or.inl nf_p6_11
  | 12, _, _ => Or.inl nf_p6_12
theorem nf_r7 : ∀ j, j < 13 → 7 ≠ j → (Cond.not (Cond.eq (mj_tm 7) (mj_tm j)) ∈ mj_fc ∨ Cond.not (Cond.eq (mj_tm j) (mj_tm 7)) ∈ mj_fc) := fun j hj hn => match j, hj, hn with
  | 0, _, _ => Or.inr nf_p0_7
  | 1, _, _ => Or.inr nf_p1_7
  | 2, _, _ => Or.inr nf_p2_7
  | 3, _, _ => Or.inr nf_p3_7
  | 4, _, _ => Or.inr nf_p4_7
  | 5, _, _ => Or.inr nf_p5_7
  | 6, _, _ => Or.inr nf_p6_7
  | 7, _, h => absurd rfl h
  | 8, _, _ => Or.inl nf_p7_8
  | 9, _, _ => Or.inl nf_p7_9
  | 10, _, _ => Or.inl nf_p7_10
  | 11, _, _ => Or.inl nf_p7_11
  | 12, _, _ => Or.inl nf_p7_12
theorem nf_r8 : ∀ j, j < 13 → 8 ≠ j → (Cond.not (Cond.eq (mj_tm 8) (mj_tm j)) ∈ mj_fc ∨ Cond.not (Cond.eq (mj_tm j) (mj_tm 8)) ∈ mj_fc) := fun j hj hn => match j, hj, hn with
  | 0, _, _ => Or.inr nf_p0_8
  | 1, _, _ => Or.inr nf_p1_8
  | 2, _, _ => Or.inr nf_p2_8
  | 3, _, _ => Or.inr nf_p3_8
  | 4, _, _ => Or.inr nf_p4_8
  | 5, _, _ => Or.inr nf_p5_8
  | 6, _, _ => Or.inr nf_p6_8
  | 7, _, _ => Or.inr nf_p7_8
  | 8, _, h => absurd rfl h
  | 9, _, _ => Or.inl nf_p8_9
  | 10, _, _ => Or.inl nf_p8_10
  | 11, _, _ => Or.inl nf_p8_11
  | 12, _, _ => Or.inl nf_p8_12
theorem nf_r9 : ∀ j, j < 13 → 9 ≠ j → (Cond.not (Cond.eq (mj_tm 9) (mj_tm j)) ∈ mj_fc ∨ Cond.not (Cond.eq (mj_tm j) (mj_tm 9)) ∈ mj_fc) := fun j hj hn => match j, hj, hn with
  | 0, _, _ => Or.inr nf_p0_9
  | 1, _, _ => Or.inr nf_p1_9
  | 2, _, _ => Or.inr nf_p2_9
  | 3, _, _ => Or.inr nf_p3_9
  | 4, _, _ => Or.inr nf_p4_9
  | 5, _, _ => Or.inr nf_p5_9
  | 6, _, _ => Or.inr nf_p6_9
  | 7, _, _ => Or.inr nf_p7_9
  | 8, _, _ => Or.inr nf_p8_9
  | 9, _, h => absurd rfl h
  | 10, _, _ => Or.inl nf_p9_10
  | 11, _, _ => Or.inl nf_p9_11
  | 12, _, _ => Or.inl nf_p9_12
theorem nf_r10 : ∀ j, j < 13 → 10 ≠ j → (Cond.not (Cond.eq (mj_tm 10) (mj_tm j)) ∈ mj_fc ∨ Cond.not (Cond.eq (mj_tm j) (mj_tm 10)) ∈ mj_fc) := fun j hj hn => match j, hj, hn with
  | 0, _, _ => Or.inr nf_p0_10
  | 1, _, _ => Or.inr nf_p1_10
  | 2, _, _ => Or.inr nf_p2_10
  | 3, _, _ => Or.inr nf_p3_10
  | 4, _, _ => Or.inr nf_p4_10
  | 5, _, _ => Or.inr nf_p5_10
  | 6, _, _ => Or.inr nf_p6_10
  | 7, _, _ => Or.inr nf_p7_10
  | 8, _, _ => Or.inr nf_p8_10
  | 9, _, _ => Or.inr nf_p9_10
  | 10, _, h => absurd rfl h
  | 11, _, _ => Or.inl nf_p10_11
  | 12, _, _ => Or.inl nf_p10_12
theorem nf_r11 : ∀ j, j < 13 → 11 ≠ j → (Cond.not (Cond.eq (mj_tm 11) (mj_tm j)) ∈ mj_fc ∨ Cond.not (Cond.eq (mj_tm j) (mj_tm 11)) ∈ mj_fc) := fun j hj hn => match j, hj, hn with
  | 0, _, _ => Or.inr nf_p0_11
  | 1, _, _ => Or.inr nf_p1_11
  | 2, _, _ => Or.inr nf_p2_11
  | 3, _, _ => Or.inr nf_p3_11
  | 4, _, _ => Or.inr nf_p4_11
  | 5, _, _ => Or.inr nf_p5_11
  | 6, _, _ => Or.inr nf_p6_11
  | 7, _, _ => Or.inr nf_p7_11
  | 8, _, _ => Or.inr nf_p8_11
  | 9, _, _ => Or.inr nf_p9_11
  | 10, _, _ => Or.inr nf_p10_11
  | 11, _, h => absurd rfl h
  | 12, _, _ => Or.inl nf_p11_12
theorem nf_r12 : ∀ j, j < 13 → 12 ≠ j → (Cond.not (Cond.eq (mj_tm 12) (mj_tm j)) ∈ mj_fc ∨ Cond.not (Cond.eq (mj_tm j) (mj_tm 12)) ∈ mj_fc) := fun j hj hn => match j, hj, hn with
  | 0, _, _ => Or.inr nf_p0_12
  | 1, _, _ => Or.inr nf_p1_12
  | 2, _, _ => Or.inr nf_p2_12
  | 3, _, _ => Or.inr nf_p3_12
  | 4, _, _ => Or.inr nf_p4_12
  | 5, _, _ => Or.inr nf_p5_12
  | 6, _, _ => Or.inr nf_p6_12
  | 7, _, _ => Or.inr nf_p7_12
  | 8, _, _ => Or.inr nf_p8_12
  | 9, _, _ => Or.inr nf_p9_12
  | 10, _, _ => Or.inr nf_p10_12
  | 11, _, _ => Or.inr nf_p11_12
  | 12, _, h => absurd rfl h
theorem nf_6 : ∀ i, i < 13 → ∀ j, j < 13 → i ≠ j → (Cond.not (Cond.eq (mj_tm i) (mj_tm j)) ∈ mj_fc ∨ Cond.not (Cond.eq (mj_tm j) (mj_tm i)) ∈ mj_fc) := fun i hi => match i, hi with
  | 0, _ => nf_r0
  | 1, _ => nf_r1
  | 2, _ => nf_r2
  | 3, _ => nf_r3
  | 4, _ => nf_r4
  | 5, _ => nf_r5
  | 6, _ => nf_r6
  | 7, _ => nf_r7
  | 8, _ => nf_r8
  | 9, _ => nf_r9
  | 10, _ => nf_r10
  | 11, _ => nf_r11
  | 12, _ => nf_r12
