set_option maxRecDepth 100000 in
theorem mj_e161 : mj_chk (⟨"PacketSieveModel", "emitProtocol", "(III)V"⟩, prog_13_method_38_code, 4, none, 11, []) mj_c161 = true := by decide +kernel
set_option maxRecDepth 100000 in
theorem mj_e162 : mj_chk (⟨"PacketSieveModel", "plain", "(IJ)V"⟩, prog_13_method_36_code, 4, none, 11, []) mj_c162 = true := by decide +kernel
set_option maxRecDepth 100000 in
theorem mj_e163 : mj_chk (⟨"PacketSieveModel", "emit", "(IJII)V"⟩, prog_13_method_35_code, 6, none, 11, []) mj_c163 = true := by decide +kernel
set_option maxRecDepth 100000 in
theorem mj_e164 : mj_chk (⟨"PacketSieveModel", "emitIp", "(I)V"⟩, prog_13_method_37_code, 2, none, 11, []) mj_c164 = true := by decide +kernel
set_option maxRecDepth 100000 in
theorem mj_e165 : mj_chk (⟨"PacketSieveModel", "maskOf", "(I)J"⟩, prog_13_method_40_code, 1, (some .long), 11, []) mj_c165 = true := by decide +kernel
set_option maxRecDepth 100000 in
theorem mj_e166 : mj_chk (⟨"PacketSieveModel", "emitSides", "(IIJJJ)V"⟩, prog_13_method_41_code, 13, none, 11, []) mj_c166 = true := by decide +kernel
set_option maxRecDepth 100000 in
theorem mj_e167 : mj_chk (⟨"PacketSieveModel", "emitPort", "(I)V"⟩, prog_13_method_42_code, 2, none, 11, []) mj_c167 = true := by decide +kernel
set_option maxRecDepth 100000 in
theorem mj_e168 : mj_chk (⟨"PacketSieveModel", "emitWhole", "(I)V"⟩, prog_13_method_39_code, 2, none, 11, []) mj_c168 = true := by decide +kernel
set_option maxRecDepth 100000 in
theorem mj_e169 : mj_chk (⟨"PacketSieveModel", "emitRelation", "(I)V"⟩, prog_13_method_48_code, 7, none, 11, []) mj_c169 = true := by decide +kernel
set_option maxRecDepth 100000 in
theorem mj_e170 : mj_chk (⟨"PacketSieveModel", "hasAccess", "(II)Z"⟩, prog_13_method_43_code, 5, (some .boolean), 11, []) mj_c170 = true := by decide +kernel
set_option maxRecDepth 100000 in
theorem mj_e171 : mj_chk (⟨"PacketSieveModel", "emitValue", "(IJ)V"⟩, prog_13_method_47_code, 5, none, 11, []) mj_c171 = true := by decide +kernel
set_option maxRecDepth 100000 in
theorem mj_e172 : mj_chk (⟨"PacketSieveModel", "task", "(IJI)V"⟩, prog_13_method_44_code, 5, none, 11, []) mj_c172 = true := by decide +kernel
set_option maxRecDepth 100000 in
theorem mj_e173 : mj_chk (⟨"PacketSieveModel", "unfold", "(IJ)V"⟩, prog_13_method_45_code, 6, none, 11, []) mj_c173 = true := by decide +kernel
set_option maxRecDepth 100000 in
theorem mj_e174 : mj_chk (⟨"PacketSieveModel", "unfoldAccess", "(IJ)V"⟩, prog_13_method_46_code, 6, none, 11, []) mj_c174 = true := by decide +kernel
