set_option maxRecDepth 100000 in
theorem mj_e39 : mj_chk (⟨"PacketSieve$Machine", "works", "(IJ)Z"⟩, prog_5_method_6_code, 5, (some .boolean), 3, []) mj_c39 = true := by decide +kernel
set_option maxRecDepth 100000 in
theorem mj_e40 : mj_chk (⟨"PacketSieve$Machine", "takesX", "(J)Z"⟩, prog_5_method_9_code, 3, (some .boolean), 3, []) mj_c40 = true := by decide +kernel
set_option maxRecDepth 100000 in
theorem mj_e41 : mj_chk (⟨"PacketSieve$Machine", "takesA", "(J)Z"⟩, prog_5_method_8_code, 3, (some .boolean), 3, []) mj_c41 = true := by decide +kernel
set_option maxRecDepth 100000 in
theorem mj_e42 : mj_chk (⟨"PacketSieve$Machine", "fieldOrSum", "(IJ)J"⟩, prog_5_method_7_code, 4, (some .long), 3, []) mj_c42 = true := by decide +kernel
set_option maxRecDepth 100000 in
theorem mj_e43 : mj_chk (⟨"PacketSieve$Packet", "<init>", "()V"⟩, prog_6_method_1_code, 1, none, 4, []) mj_c43 = true := by decide +kernel
set_option maxRecDepth 100000 in
theorem mj_e44 : mj_chk (⟨"PacketSieve$Packet", "hasRoom", "(I)Z"⟩, prog_6_method_4_code, 2, (some .boolean), 4, []) mj_c44 = true := by decide +kernel
set_option maxRecDepth 100000 in
theorem mj_e45 : mj_chk (⟨"PacketSieve$Packet", "append", "(JI)V"⟩, prog_6_method_5_code, 5, none, 4, []) mj_c45 = true := by decide +kernel
set_option maxRecDepth 100000 in
theorem mj_e46 : mj_chk (⟨"PacketSieve$Packet", "length", "()I"⟩, prog_6_method_3_code, 1, (some .int), 4, []) mj_c46 = true := by decide +kernel
set_option maxRecDepth 100000 in
theorem mj_e47 : mj_chk (⟨"PacketSieve$Packet", "shorten", "(I)V"⟩, prog_6_method_6_code, 2, none, 4, []) mj_c47 = true := by decide +kernel
set_option maxRecDepth 100000 in
theorem mj_e48 : mj_chk (⟨"PacketSieve$Packet", "replace", "(II)I"⟩, prog_6_method_7_code, 4, (some .int), 4, []) mj_c48 = true := by decide +kernel
set_option maxRecDepth 100000 in
theorem mj_e49 : mj_chk (⟨"PacketSieve$Packet", "protocolNumber", "(I)I"⟩, prog_6_method_2_code, 1, (some .int), 4, []) mj_c49 = true := by decide +kernel
set_option maxRecDepth 100000 in
theorem mj_e50 : mj_chk (⟨"PacketSieve$Packet", "field", "(JI)J"⟩, prog_6_method_8_code, 7, (some .long), 4, []) mj_c50 = true := by decide +kernel
set_option maxRecDepth 100000 in
theorem mj_e51 : mj_chk (⟨"PacketSieve$Packet", "headerLength", "(J)J"⟩, prog_6_method_9_code, 5, (some .long), 4, []) mj_c51 = true := by decide +kernel
set_option maxRecDepth 100000 in
theorem mj_e52 : mj_chk (⟨"PacketSieve$Parser", "<init>", "(LPacketSieve$Tree;)V"⟩, prog_7_method_1_code, 2, none, 5, []) mj_c52 = true := by decide +kernel
set_option maxRecDepth 100000 in
theorem mj_e53 : mj_chk (⟨"PacketSieve$Parser", "parse", "(LPacketSieve$Text;)V"⟩, prog_7_method_2_code, 2, none, 5, []) mj_c53 = true := by decide +kernel
set_option maxRecDepth 100000 in
theorem mj_e54 : mj_chk (⟨"PacketSieve$Parser", "filter", "()I"⟩, prog_7_method_3_code, 4, (some .int), 5, []) mj_c54 = true := by decide +kernel
set_option maxRecDepth 100000 in
theorem mj_e55 : mj_chk (⟨"PacketSieve$Parser", "part", "()I"⟩, prog_7_method_4_code, 4, (some .int), 5, []) mj_c55 = true := by decide +kernel
set_option maxRecDepth 100000 in
theorem mj_e56 : mj_chk (⟨"PacketSieve$Parser", "unit", "()I"⟩, prog_7_method_5_code, 3, (some .int), 5, []) mj_c56 = true := by decide +kernel
set_option maxRecDepth 100000 in
theorem mj_e57 : mj_chk (⟨"PacketSieve$Parser", "accept", "(I)Z"⟩, prog_7_method_15_code, 3, (some .boolean), 5, []) mj_c57 = true := by decide +kernel
set_option maxRecDepth 100000 in
theorem mj_e58 : mj_chk (⟨"PacketSieve$Parser", "unitWithoutNot", "()I"⟩, prog_7_method_6_code, 3, (some .int), 5, []) mj_c58 = true := by decide +kernel
set_option maxRecDepth 100000 in
theorem mj_e59 : mj_chk (⟨"PacketSieve$Parser", "enter", "()V"⟩, prog_7_method_13_code, 1, none, 5, []) mj_c59 = true := by decide +kernel
set_option maxRecDepth 100000 in
theorem mj_e60 : mj_chk (⟨"PacketSieve$Parser", "leave", "(I)V"⟩, prog_7_method_14_code, 2, none, 5, []) mj_c60 = true := by decide +kernel
set_option maxRecDepth 100000 in
theorem mj_e61 : mj_chk (⟨"PacketSieve$Parser", "expect", "(I)V"⟩, prog_7_method_16_code, 2, none, 5, []) mj_c61 = true := by decide +kernel
set_option maxRecDepth 100000 in
theorem mj_e62 : mj_chk (⟨"PacketSieve$Parser", "protocolOf", "(I)I"⟩, prog_7_method_18_code, 1, (some .int), 5, []) mj_c62 = true := by decide +kernel
set_option maxRecDepth 100000 in
theorem mj_e63 : mj_chk (⟨"PacketSieve$Parser", "isEndWord", "(I)Z"⟩, prog_7_method_19_code, 1, (some .boolean), 5, []) mj_c63 = true := by decide +kernel
set_option maxRecDepth 100000 in
theorem mj_e64 : mj_chk (⟨"PacketSieve$Parser", "endPrimitive", "(I)I"⟩, prog_7_method_7_code, 6, (some .int), 5, []) mj_c64 = true := by decide +kernel
set_option maxRecDepth 100000 in
theorem mj_e65 : mj_chk (⟨"PacketSieve$Parser", "address", "()J"⟩, prog_7_method_8_code, 4, (some .long), 5, []) mj_c65 = true := by decide +kernel
set_option maxRecDepth 100000 in
theorem mj_e66 : mj_chk (⟨"PacketSieve$Parser", "numberUpTo", "(J)J"⟩, prog_7_method_17_code, 5, (some .long), 5, []) mj_c66 = true := by decide +kernel
set_option maxRecDepth 100000 in
theorem mj_e67 : mj_chk (⟨"PacketSieve$Parser", "relation", "()I"⟩, prog_7_method_9_code, 5, (some .int), 5, []) mj_c67 = true := by decide +kernel
set_option maxRecDepth 100000 in
theorem mj_e68 : mj_chk (⟨"PacketSieve$Parser", "value", "(I)I"⟩, prog_7_method_10_code, 6, (some .int), 5, []) mj_c68 = true := by decide +kernel
