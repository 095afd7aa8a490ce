set_option maxRecDepth 100000 in
theorem mj_e69 : mj_chk (⟨"PacketSieve$Parser", "item", "()I"⟩, prog_7_method_11_code, 2, (some .int), 5, []) mj_c69 = true := by decide +kernel
set_option maxRecDepth 100000 in
theorem mj_e70 : mj_chk (⟨"PacketSieve$Parser", "access", "()I"⟩, prog_7_method_12_code, 5, (some .int), 5, []) mj_c70 = true := by decide +kernel
set_option maxRecDepth 100000 in
theorem mj_e71 : mj_chk (⟨"PacketSieve$Parser", "strength", "(I)I"⟩, prog_7_method_21_code, 1, (some .int), 5, []) mj_c71 = true := by decide +kernel
set_option maxRecDepth 100000 in
theorem mj_e72 : mj_chk (⟨"PacketSieve$Parser", "signNumber", "(I)I"⟩, prog_7_method_22_code, 1, (some .int), 5, []) mj_c72 = true := by decide +kernel
set_option maxRecDepth 100000 in
theorem mj_e73 : mj_chk (⟨"PacketSieve$Parser", "isRelationSign", "(I)Z"⟩, prog_7_method_20_code, 1, (some .boolean), 5, []) mj_c73 = true := by decide +kernel
set_option maxRecDepth 100000 in
theorem mj_e74 : mj_chk (⟨"PacketSieve$Program", "<init>", "()V"⟩, prog_8_method_1_code, 1, none, 6, []) mj_c74 = true := by decide +kernel
set_option maxRecDepth 100000 in
theorem mj_e75 : mj_chk (⟨"PacketSieve$Program", "size", "()I"⟩, prog_8_method_3_code, 1, (some .int), 6, []) mj_c75 = true := by decide +kernel
set_option maxRecDepth 100000 in
theorem mj_e76 : mj_chk (⟨"PacketSieve$Program", "operation", "(I)I"⟩, prog_8_method_5_code, 2, (some .int), 6, []) mj_c76 = true := by decide +kernel
set_option maxRecDepth 100000 in
theorem mj_e77 : mj_chk (⟨"PacketSieve$Program", "wayIfSo", "(I)I"⟩, prog_8_method_6_code, 2, (some .int), 6, []) mj_c77 = true := by decide +kernel
set_option maxRecDepth 100000 in
theorem mj_e78 : mj_chk (⟨"PacketSieve$Program", "wayIfNot", "(I)I"⟩, prog_8_method_7_code, 2, (some .int), 6, []) mj_c78 = true := by decide +kernel
set_option maxRecDepth 100000 in
theorem mj_e79 : mj_chk (⟨"PacketSieve$Program", "number", "(I)J"⟩, prog_8_method_8_code, 2, (some .long), 6, []) mj_c79 = true := by decide +kernel
set_option maxRecDepth 100000 in
theorem mj_e80 : mj_chk (⟨"PacketSieve$Program", "empty", "()V"⟩, prog_8_method_2_code, 1, none, 6, []) mj_c80 = true := by decide +kernel
set_option maxRecDepth 100000 in
theorem mj_e81 : mj_chk (⟨"PacketSieve$Program", "prepend", "(IJ)V"⟩, prog_8_method_9_code, 4, none, 6, []) mj_c81 = true := by decide +kernel
set_option maxRecDepth 100000 in
theorem mj_e82 : mj_chk (⟨"PacketSieve$Program", "start", "()I"⟩, prog_8_method_4_code, 1, (some .int), 6, []) mj_c82 = true := by decide +kernel
set_option maxRecDepth 100000 in
theorem mj_e83 : mj_chk (⟨"PacketSieve$Program", "prependTest", "(IJII)V"⟩, prog_8_method_10_code, 7, none, 6, []) mj_c83 = true := by decide +kernel
set_option maxRecDepth 100000 in
theorem mj_e84 : mj_chk (⟨"PacketSieve$Text", "<init>", "()V"⟩, prog_9_method_1_code, 1, none, 7, []) mj_c84 = true := by decide +kernel
set_option maxRecDepth 100000 in
theorem mj_e85 : mj_chk (⟨"PacketSieve$Text", "length", "()I"⟩, prog_9_method_3_code, 1, (some .int), 7, []) mj_c85 = true := by decide +kernel
set_option maxRecDepth 100000 in
theorem mj_e86 : mj_chk (⟨"PacketSieve$Text", "empty", "()V"⟩, prog_9_method_6_code, 1, none, 7, []) mj_c86 = true := by decide +kernel
set_option maxRecDepth 100000 in
theorem mj_e87 : mj_chk (⟨"PacketSieve$Text", "areCharacters", "(JI)Z"⟩, prog_9_method_2_code, 5, (some .boolean), 7, []) mj_c87 = true := by decide +kernel
set_option maxRecDepth 100000 in
theorem mj_e88 : mj_chk (⟨"PacketSieve$Text", "hasRoom", "(I)Z"⟩, prog_9_method_4_code, 2, (some .boolean), 7, []) mj_c88 = true := by decide +kernel
set_option maxRecDepth 100000 in
theorem mj_e89 : mj_chk (⟨"PacketSieve$Text", "append", "(JI)V"⟩, prog_9_method_5_code, 5, none, 7, []) mj_c89 = true := by decide +kernel
set_option maxRecDepth 100000 in
theorem mj_e90 : mj_chk (⟨"PacketSieve$Text", "at", "(I)I"⟩, prog_9_method_7_code, 2, (some .int), 7, []) mj_c90 = true := by decide +kernel
set_option maxRecDepth 100000 in
theorem mj_e91 : mj_chk (⟨"PacketSieve$Text", "spells", "(Ljava/lang/String;II)Z"⟩, prog_9_method_8_code, 5, (some .boolean), 7, []) mj_c91 = true := by decide +kernel
set_option maxRecDepth 100000 in
theorem mj_e92 : mj_chk (⟨"PacketSieve$Tokens", "<init>", "()V"⟩, prog_10_method_1_code, 1, none, 8, []) mj_c92 = true := by decide +kernel
set_option maxRecDepth 100000 in
theorem mj_e93 : mj_chk (⟨"PacketSieve$Tokens", "read", "(LPacketSieve$Text;)V"⟩, prog_10_method_4_code, 4, none, 8, []) mj_c93 = true := by decide +kernel
set_option maxRecDepth 100000 in
theorem mj_e94 : mj_chk (⟨"PacketSieve$Tokens", "readToken", "(LPacketSieve$Text;I)I"⟩, prog_10_method_5_code, 3, (some .int), 8, []) mj_c94 = true := by decide +kernel
set_option maxRecDepth 100000 in
theorem mj_e95 : mj_chk (⟨"PacketSieve$Tokens", "isLetter", "(I)Z"⟩, prog_10_method_9_code, 1, (some .boolean), 8, []) mj_c95 = true := by decide +kernel
set_option maxRecDepth 100000 in
theorem mj_e96 : mj_chk (⟨"PacketSieve$Tokens", "readWord", "(LPacketSieve$Text;I)I"⟩, prog_10_method_6_code, 4, (some .int), 8, []) mj_c96 = true := by decide +kernel
set_option maxRecDepth 100000 in
theorem mj_e97 : mj_chk (⟨"PacketSieve$Tokens", "wordKind", "(LPacketSieve$Text;II)I"⟩, prog_10_method_11_code, 3, (some .int), 8, []) mj_c97 = true := by decide +kernel
set_option maxRecDepth 100000 in
theorem mj_e98 : mj_chk (⟨"PacketSieve$Tokens", "isDigit", "(I)Z"⟩, prog_10_method_10_code, 1, (some .boolean), 8, []) mj_c98 = true := by decide +kernel
set_option maxRecDepth 100000 in
theorem mj_e99 : mj_chk (⟨"PacketSieve$Tokens", "readNumber", "(LPacketSieve$Text;I)I"⟩, prog_10_method_7_code, 6, (some .int), 8, []) mj_c99 = true := by decide +kernel
set_option maxRecDepth 100000 in
theorem mj_e100 : mj_chk (⟨"PacketSieve$Tokens", "readSign", "(LPacketSieve$Text;I)I"⟩, prog_10_method_8_code, 5, (some .int), 8, []) mj_c100 = true := by decide +kernel
