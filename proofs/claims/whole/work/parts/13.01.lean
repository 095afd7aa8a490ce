set_option maxRecDepth 100000 in
theorem mj_e18 : mj_chk (⟨"PacketSieve$Filter", "<init>", "(LPacketSieve$Packet;)V"⟩, prog_3_method_1_code, 3, none, 1, []) mj_c18 = true := by decide +kernel
set_option maxRecDepth 100000 in
theorem mj_e19 : mj_chk (⟨"PacketSieve$Judge", "<init>", "(LPacketSieve$Tree;LPacketSieve$Packet;)V"⟩, prog_4_method_1_code, 3, none, 2, []) mj_c19 = true := by decide +kernel
set_option maxRecDepth 100000 in
theorem mj_e20 : mj_chk (⟨"PacketSieve$Judge", "judge", "()I"⟩, prog_4_method_2_code, 1, (some .int), 2, []) mj_c20 = true := by decide +kernel
set_option maxRecDepth 100000 in
theorem mj_e21 : mj_chk (⟨"PacketSieve$Judge", "verdict", "(I)I"⟩, prog_4_method_3_code, 3, (some .int), 2, []) mj_c21 = true := by decide +kernel
set_option maxRecDepth 100000 in
theorem mj_e22 : mj_chk (⟨"PacketSieve$Judge", "protocol", "(I)I"⟩, prog_4_method_4_code, 3, (some .int), 2, []) mj_c22 = true := by decide +kernel
set_option maxRecDepth 100000 in
theorem mj_e23 : mj_chk (⟨"PacketSieve$Judge", "same", "(JJJ)I"⟩, prog_4_method_14_code, 6, (some .int), 2, []) mj_c23 = true := by decide +kernel
set_option maxRecDepth 100000 in
theorem mj_e24 : mj_chk (⟨"PacketSieve$Judge", "port", "(I)I"⟩, prog_4_method_7_code, 5, (some .int), 2, []) mj_c24 = true := by decide +kernel
set_option maxRecDepth 100000 in
theorem mj_e25 : mj_chk (⟨"PacketSieve$Judge", "whole", "()I"⟩, prog_4_method_5_code, 1, (some .int), 2, []) mj_c25 = true := by decide +kernel
set_option maxRecDepth 100000 in
theorem mj_e26 : mj_chk (⟨"PacketSieve$Judge", "ends", "(IJJI)I"⟩, prog_4_method_8_code, 8, (some .int), 2, []) mj_c26 = true := by decide +kernel
set_option maxRecDepth 100000 in
theorem mj_e27 : mj_chk (⟨"PacketSieve$Judge", "relation", "(I)I"⟩, prog_4_method_9_code, 7, (some .int), 2, []) mj_c27 = true := by decide +kernel
set_option maxRecDepth 100000 in
theorem mj_e28 : mj_chk (⟨"PacketSieve$Judge", "protocols", "(I)I"⟩, prog_4_method_10_code, 3, (some .int), 2, []) mj_c28 = true := by decide +kernel
set_option maxRecDepth 100000 in
theorem mj_e29 : mj_chk (⟨"PacketSieve$Judge", "wholeProtocol", "(I)I"⟩, prog_4_method_11_code, 3, (some .int), 2, []) mj_c29 = true := by decide +kernel
set_option maxRecDepth 100000 in
theorem mj_e30 : mj_chk (⟨"PacketSieve$Judge", "value", "(I)J"⟩, prog_4_method_12_code, 2, (some .long), 2, []) mj_c30 = true := by decide +kernel
set_option maxRecDepth 100000 in
theorem mj_e31 : mj_chk (⟨"PacketSieve$Judge", "access", "(IJI)J"⟩, prog_4_method_13_code, 7, (some .long), 2, []) mj_c31 = true := by decide +kernel
set_option maxRecDepth 100000 in
theorem mj_e32 : mj_chk (⟨"PacketSieve$Judge", "compares", "(IJJ)Z"⟩, prog_4_method_15_code, 5, (some .boolean), 2, []) mj_c32 = true := by decide +kernel
set_option maxRecDepth 100000 in
theorem mj_e33 : mj_chk (⟨"PacketSieve$Judge", "address", "(I)I"⟩, prog_4_method_6_code, 3, (some .int), 2, []) mj_c33 = true := by decide +kernel
set_option maxRecDepth 100000 in
theorem mj_e34 : mj_chk (⟨"PacketSieve$Machine", "<init>", "(LPacketSieve$Packet;)V"⟩, prog_5_method_1_code, 2, none, 3, []) mj_c34 = true := by decide +kernel
set_option maxRecDepth 100000 in
theorem mj_e35 : mj_chk (⟨"PacketSieve$Machine", "report", "(I)I"⟩, prog_5_method_2_code, 2, (some .int), 3, []) mj_c35 = true := by decide +kernel
set_option maxRecDepth 100000 in
theorem mj_e36 : mj_chk (⟨"PacketSieve$Machine", "execute", "(LPacketSieve$Program;)I"⟩, prog_5_method_3_code, 7, (some .int), 3, []) mj_c36 = true := by decide +kernel
set_option maxRecDepth 100000 in
theorem mj_e37 : mj_chk (⟨"PacketSieve$Machine", "reset", "()V"⟩, prog_5_method_4_code, 2, none, 3, []) mj_c37 = true := by decide +kernel
set_option maxRecDepth 100000 in
theorem mj_e38 : mj_chk (⟨"PacketSieve$Machine", "passes", "(IJ)Z"⟩, prog_5_method_5_code, 7, (some .boolean), 3, []) mj_c38 = true := by decide +kernel
