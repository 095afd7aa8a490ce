set_option maxRecDepth 100000 in
theorem mj_e128 : mj_chk (⟨"PacketSieveModel", "isCharacter", "(J)Z"⟩, prog_13_method_4_code, 2, (some .boolean), 11, []) mj_c128 = true := by decide +kernel
set_option maxRecDepth 100000 in
theorem mj_e129 : mj_chk (⟨"PacketSieveModel", "clear", "()I"⟩, prog_13_method_6_code, 2, (some .int), 11, []) mj_c129 = true := by decide +kernel
set_option maxRecDepth 100000 in
theorem mj_e130 : mj_chk (⟨"PacketSieveModel", "compile", "()I"⟩, prog_13_method_52_code, 2, (some .int), 11, []) mj_c130 = true := by decide +kernel
set_option maxRecDepth 100000 in
theorem mj_e131 : mj_chk (⟨"PacketSieveModel", "reads", "()Z"⟩, prog_13_method_32_code, 2, (some .boolean), 11, []) mj_c131 = true := by decide +kernel
set_option maxRecDepth 100000 in
theorem mj_e132 : mj_chk (⟨"PacketSieveModel", "take", "()V"⟩, prog_13_method_11_code, 4, none, 11, []) mj_c132 = true := by decide +kernel
set_option maxRecDepth 100000 in
theorem mj_e133 : mj_chk (⟨"PacketSieveModel", "character", "(I)I"⟩, prog_13_method_7_code, 2, (some .int), 11, []) mj_c133 = true := by decide +kernel
set_option maxRecDepth 100000 in
theorem mj_e134 : mj_chk (⟨"PacketSieveModel", "isLetter", "(I)Z"⟩, prog_13_method_8_code, 1, (some .boolean), 11, []) mj_c134 = true := by decide +kernel
set_option maxRecDepth 100000 in
theorem mj_e135 : mj_chk (⟨"PacketSieveModel", "isDigit", "(I)Z"⟩, prog_13_method_9_code, 1, (some .boolean), 11, []) mj_c135 = true := by decide +kernel
set_option maxRecDepth 100000 in
theorem mj_e136 : mj_chk (⟨"PacketSieveModel", "isTwo", "(II)Z"⟩, prog_13_method_10_code, 2, (some .boolean), 11, []) mj_c136 = true := by decide +kernel
set_option maxRecDepth 100000 in
theorem mj_e137 : mj_chk (⟨"PacketSieveModel", "begins", "()Z"⟩, prog_13_method_28_code, 5, (some .boolean), 11, []) mj_c137 = true := by decide +kernel
set_option maxRecDepth 100000 in
theorem mj_e138 : mj_chk (⟨"PacketSieveModel", "protocol", "()I"⟩, prog_13_method_27_code, 1, (some .int), 11, []) mj_c138 = true := by decide +kernel
set_option maxRecDepth 100000 in
theorem mj_e139 : mj_chk (⟨"PacketSieveModel", "isWord", "(J)Z"⟩, prog_13_method_12_code, 3, (some .boolean), 11, []) mj_c139 = true := by decide +kernel
set_option maxRecDepth 100000 in
theorem mj_e140 : mj_chk (⟨"PacketSieveModel", "isSign", "(J)Z"⟩, prog_13_method_13_code, 3, (some .boolean), 11, []) mj_c140 = true := by decide +kernel
set_option maxRecDepth 100000 in
theorem mj_e141 : mj_chk (⟨"PacketSieveModel", "open", "(II)V"⟩, prog_13_method_20_code, 3, none, 11, []) mj_c141 = true := by decide +kernel
set_option maxRecDepth 100000 in
theorem mj_e142 : mj_chk (⟨"PacketSieveModel", "hold", "(II)V"⟩, prog_13_method_19_code, 3, none, 11, []) mj_c142 = true := by decide +kernel
set_option maxRecDepth 100000 in
theorem mj_e143 : mj_chk (⟨"PacketSieveModel", "node", "(IIIIJ)V"⟩, prog_13_method_16_code, 7, none, 11, []) mj_c143 = true := by decide +kernel
set_option maxRecDepth 100000 in
theorem mj_e144 : mj_chk (⟨"PacketSieveModel", "primitive", "(I)V"⟩, prog_13_method_26_code, 7, none, 11, []) mj_c144 = true := by decide +kernel
