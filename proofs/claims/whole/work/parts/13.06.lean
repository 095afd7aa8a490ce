set_option maxRecDepth 100000 in
theorem mj_e145 : mj_chk (⟨"PacketSieveModel", "address", "()J"⟩, prog_13_method_25_code, 4, (some .long), 11, []) mj_c145 = true := by decide +kernel
set_option maxRecDepth 100000 in
theorem mj_e146 : mj_chk (⟨"PacketSieveModel", "need", "(J)V"⟩, prog_13_method_14_code, 3, none, 11, []) mj_c146 = true := by decide +kernel
set_option maxRecDepth 100000 in
theorem mj_e147 : mj_chk (⟨"PacketSieveModel", "needNumber", "(J)J"⟩, prog_13_method_15_code, 5, (some .long), 11, []) mj_c147 = true := by decide +kernel
set_option maxRecDepth 100000 in
theorem mj_e148 : mj_chk (⟨"PacketSieveModel", "goesOn", "()Z"⟩, prog_13_method_31_code, 2, (some .boolean), 11, []) mj_c148 = true := by decide +kernel
set_option maxRecDepth 100000 in
theorem mj_e149 : mj_chk (⟨"PacketSieveModel", "strength", "()I"⟩, prog_13_method_21_code, 1, (some .int), 11, []) mj_c149 = true := by decide +kernel
set_option maxRecDepth 100000 in
theorem mj_e150 : mj_chk (⟨"PacketSieveModel", "reduceTo", "(I)V"⟩, prog_13_method_24_code, 2, none, 11, []) mj_c150 = true := by decide +kernel
set_option maxRecDepth 100000 in
theorem mj_e151 : mj_chk (⟨"PacketSieveModel", "reduce", "()V"⟩, prog_13_method_23_code, 5, none, 11, []) mj_c151 = true := by decide +kernel
set_option maxRecDepth 100000 in
theorem mj_e152 : mj_chk (⟨"PacketSieveModel", "pop", "()I"⟩, prog_13_method_18_code, 1, (some .int), 11, []) mj_c152 = true := by decide +kernel
set_option maxRecDepth 100000 in
theorem mj_e153 : mj_chk (⟨"PacketSieveModel", "isValue", "(I)Z"⟩, prog_13_method_17_code, 2, (some .boolean), 11, []) mj_c153 = true := by decide +kernel
set_option maxRecDepth 100000 in
theorem mj_e154 : mj_chk (⟨"PacketSieveModel", "numberOf", "()I"⟩, prog_13_method_22_code, 2, (some .int), 11, []) mj_c154 = true := by decide +kernel
set_option maxRecDepth 100000 in
theorem mj_e155 : mj_chk (⟨"PacketSieveModel", "closeSquare", "()V"⟩, prog_13_method_30_code, 5, none, 11, []) mj_c155 = true := by decide +kernel
set_option maxRecDepth 100000 in
theorem mj_e156 : mj_chk (⟨"PacketSieveModel", "close", "(I)V"⟩, prog_13_method_29_code, 2, none, 11, []) mj_c156 = true := by decide +kernel
set_option maxRecDepth 100000 in
theorem mj_e157 : mj_chk (⟨"PacketSieveModel", "refuse", "(I)I"⟩, prog_13_method_3_code, 2, (some .int), 11, []) mj_c157 = true := by decide +kernel
set_option maxRecDepth 100000 in
theorem mj_e158 : mj_chk (⟨"PacketSieveModel", "link", "()V"⟩, prog_13_method_34_code, 4, none, 11, []) mj_c158 = true := by decide +kernel
set_option maxRecDepth 100000 in
theorem mj_e159 : mj_chk (⟨"PacketSieveModel", "firstLeaf", "(I)I"⟩, prog_13_method_33_code, 3, (some .int), 11, []) mj_c159 = true := by decide +kernel
set_option maxRecDepth 100000 in
theorem mj_e160 : mj_chk (⟨"PacketSieveModel", "emitLeaf", "(I)V"⟩, prog_13_method_49_code, 2, none, 11, []) mj_c160 = true := by decide +kernel
