set_option maxRecDepth 100000 in
theorem mj_e0 : mj_chk (⟨"PacketSieve$Coder", "<init>", "(LPacketSieve$Tree;LPacketSieve$Program;)V"⟩, prog_2_method_1_code, 3, none, 0, []) mj_c0 = true := by decide +kernel
set_option maxRecDepth 100000 in
theorem mj_e1 : mj_chk (⟨"PacketSieve$Coder", "translate", "(I)V"⟩, prog_2_method_2_code, 4, none, 0, []) mj_c1 = true := by decide +kernel
set_option maxRecDepth 100000 in
theorem mj_e2 : mj_chk (⟨"PacketSieve$Coder", "condition", "(III)V"⟩, prog_2_method_3_code, 4, none, 0, []) mj_c2 = true := by decide +kernel
set_option maxRecDepth 100000 in
theorem mj_e3 : mj_chk (⟨"PacketSieve$Coder", "protocol", "(III)V"⟩, prog_2_method_4_code, 5, none, 0, []) mj_c3 = true := by decide +kernel
set_option maxRecDepth 100000 in
theorem mj_e4 : mj_chk (⟨"PacketSieve$Coder", "field", "(JI)V"⟩, prog_2_method_16_code, 4, none, 0, []) mj_c4 = true := by decide +kernel
set_option maxRecDepth 100000 in
theorem mj_e5 : mj_chk (⟨"PacketSieve$Coder", "port", "(III)V"⟩, prog_2_method_6_code, 5, none, 0, []) mj_c5 = true := by decide +kernel
set_option maxRecDepth 100000 in
theorem mj_e6 : mj_chk (⟨"PacketSieve$Coder", "ends", "(IIIII)V"⟩, prog_2_method_7_code, 7, none, 0, []) mj_c6 = true := by decide +kernel
set_option maxRecDepth 100000 in
theorem mj_e7 : mj_chk (⟨"PacketSieve$Coder", "end", "(IIII)V"⟩, prog_2_method_8_code, 5, none, 0, []) mj_c7 = true := by decide +kernel
set_option maxRecDepth 100000 in
theorem mj_e8 : mj_chk (⟨"PacketSieve$Coder", "fieldAtX", "(II)V"⟩, prog_2_method_17_code, 3, none, 0, []) mj_c8 = true := by decide +kernel
set_option maxRecDepth 100000 in
theorem mj_e9 : mj_chk (⟨"PacketSieve$Coder", "whole", "(I)V"⟩, prog_2_method_5_code, 2, none, 0, []) mj_c9 = true := by decide +kernel
set_option maxRecDepth 100000 in
theorem mj_e10 : mj_chk (⟨"PacketSieve$Coder", "relation", "(III)V"⟩, prog_2_method_9_code, 8, none, 0, []) mj_c10 = true := by decide +kernel
set_option maxRecDepth 100000 in
theorem mj_e11 : mj_chk (⟨"PacketSieve$Coder", "comparison", "(III)V"⟩, prog_2_method_10_code, 7, none, 0, []) mj_c11 = true := by decide +kernel
set_option maxRecDepth 100000 in
theorem mj_e12 : mj_chk (⟨"PacketSieve$Coder", "testOf", "(I)I"⟩, prog_2_method_11_code, 1, (some .int), 0, []) mj_c12 = true := by decide +kernel
set_option maxRecDepth 100000 in
theorem mj_e13 : mj_chk (⟨"PacketSieve$Coder", "value", "(II)V"⟩, prog_2_method_12_code, 5, none, 0, []) mj_c13 = true := by decide +kernel
set_option maxRecDepth 100000 in
theorem mj_e14 : mj_chk (⟨"PacketSieve$Coder", "isPairWithNumber", "(I)Z"⟩, prog_2_method_13_code, 2, (some .boolean), 0, []) mj_c14 = true := by decide +kernel
set_option maxRecDepth 100000 in
theorem mj_e15 : mj_chk (⟨"PacketSieve$Coder", "access", "(II)V"⟩, prog_2_method_15_code, 7, none, 0, []) mj_c15 = true := by decide +kernel
set_option maxRecDepth 100000 in
theorem mj_e16 : mj_chk (⟨"PacketSieve$Coder", "useCell", "(II)V"⟩, prog_2_method_18_code, 3, none, 0, []) mj_c16 = true := by decide +kernel
set_option maxRecDepth 100000 in
theorem mj_e17 : mj_chk (⟨"PacketSieve$Coder", "twoValues", "(III)V"⟩, prog_2_method_14_code, 4, none, 0, []) mj_c17 = true := by decide +kernel
