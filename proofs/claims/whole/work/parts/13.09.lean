set_option maxRecDepth 100000 in
theorem mj_e191 : mj_chk (⟨"PacketSieveModel", "hasOld", "(II)Z"⟩, prog_13_method_65_code, 5, (some .boolean), 11, []) mj_c191 = true := by decide +kernel
set_option maxRecDepth 100000 in
theorem mj_e192 : mj_chk (⟨"PacketSieveModel", "valueOf", "(I)J"⟩, prog_13_method_66_code, 6, (some .long), 11, []) mj_c192 = true := by decide +kernel
set_option maxRecDepth 100000 in
theorem mj_e193 : mj_chk (⟨"PacketSieveModel", "worked", "(IJJ)J"⟩, prog_13_method_58_code, 6, (some .long), 11, []) mj_c193 = true := by decide +kernel
set_option maxRecDepth 100000 in
theorem mj_e194 : mj_chk (⟨"PacketSieveModel", "run", "()I"⟩, prog_13_method_72_code, 5, (some .int), 11, []) mj_c194 = true := by decide +kernel
set_option maxRecDepth 100000 in
theorem mj_e195 : mj_chk (⟨"PacketSieveModel", "doIt", "(IJ)V"⟩, prog_13_method_70_code, 6, none, 11, []) mj_c195 = true := by decide +kernel
set_option maxRecDepth 100000 in
theorem mj_e196 : mj_chk (⟨"PacketSieveModel", "isSo", "(IJ)Z"⟩, prog_13_method_71_code, 7, (some .boolean), 11, []) mj_c196 = true := by decide +kernel
set_option maxRecDepth 100000 in
theorem mj_e197 : mj_chk (⟨"PacketSieveModel", "state", "(I)I"⟩, prog_13_method_73_code, 2, (some .int), 11, []) mj_c197 = true := by decide +kernel
set_option maxRecDepth 100000 in
theorem mj_e198 : mj_chk (⟨"PacketSieveLaw", "cell", "([II)I"⟩, method_2_code, 2, (some .int), 12, []) mj_c198 = true := by decide +kernel
set_option maxRecDepth 100000 in
theorem mj_e199 : mj_chk (⟨"PacketSieveLaw", "type", "(LPacketSieve;JI[J)I"⟩, method_3_code, 6, (some .int), 12, [(0, 11, 14, 13), (0, 11, 18, 15)]) mj_c199 = true := by decide +kernel
set_option maxRecDepth 100000 in
theorem mj_e200 : mj_chk (⟨"PacketSieveLaw", "compile", "(LPacketSieve;[J)I"⟩, method_4_code, 3, (some .int), 12, [(0, 8, 11, 13), (0, 8, 14, 21)]) mj_c200 = true := by decide +kernel
set_option maxRecDepth 100000 in
theorem mj_e201 : mj_chk (⟨"PacketSieveLaw", "holds", "(LPacketSieve;[J)I"⟩, method_5_code, 3, (some .int), 12, [(0, 8, 11, 15)]) mj_c201 = true := by decide +kernel
set_option maxRecDepth 100000 in
theorem mj_e202 : mj_chk (⟨"PacketSieveLaw", "run", "(LPacketSieve;[J)I"⟩, method_6_code, 3, (some .int), 12, [(0, 8, 11, 15)]) mj_c202 = true := by decide +kernel
set_option maxRecDepth 100000 in
theorem mj_e203 : mj_chk (⟨"PacketSieveLaw", "law", "([I)Z"⟩, code, 7, (some .boolean), 12, []) mj_c203 = true := by decide +kernel
