set_option maxRecDepth 100000 in
theorem mj_e175 : mj_chk (⟨"PacketSieveModel", "takeProgram", "()V"⟩, prog_13_method_51_code, 2, none, 11, []) mj_c175 = true := by decide +kernel
set_option maxRecDepth 100000 in
theorem mj_e176 : mj_chk (⟨"PacketSieveModel", "way", "(II)I"⟩, prog_13_method_50_code, 3, (some .int), 11, []) mj_c176 = true := by decide +kernel
set_option maxRecDepth 100000 in
theorem mj_e177 : mj_chk (⟨"PacketSieveModel", "instruction", "(II)I"⟩, prog_13_method_53_code, 3, (some .int), 11, []) mj_c177 = true := by decide +kernel
set_option maxRecDepth 100000 in
theorem mj_e178 : mj_chk (⟨"PacketSieveModel", "put", "(JI)I"⟩, prog_13_method_54_code, 5, (some .int), 11, []) mj_c178 = true := by decide +kernel
set_option maxRecDepth 100000 in
theorem mj_e179 : mj_chk (⟨"PacketSieveModel", "cut", "(I)I"⟩, prog_13_method_55_code, 3, (some .int), 11, []) mj_c179 = true := by decide +kernel
set_option maxRecDepth 100000 in
theorem mj_e180 : mj_chk (⟨"PacketSieveModel", "set", "(II)I"⟩, prog_13_method_56_code, 4, (some .int), 11, []) mj_c180 = true := by decide +kernel
set_option maxRecDepth 100000 in
theorem mj_e181 : mj_chk (⟨"PacketSieveModel", "holds", "()I"⟩, prog_13_method_69_code, 2, (some .int), 11, []) mj_c181 = true := by decide +kernel
set_option maxRecDepth 100000 in
theorem mj_e182 : mj_chk (⟨"PacketSieveModel", "isLeaf", "(I)Z"⟩, prog_13_method_68_code, 2, (some .boolean), 11, []) mj_c182 = true := by decide +kernel
set_option maxRecDepth 100000 in
theorem mj_e183 : mj_chk (⟨"PacketSieveModel", "isIp", "()Z"⟩, prog_13_method_59_code, 1, (some .boolean), 11, []) mj_c183 = true := by decide +kernel
set_option maxRecDepth 100000 in
theorem mj_e184 : mj_chk (⟨"PacketSieveModel", "field", "(JI)J"⟩, prog_13_method_57_code, 7, (some .long), 11, []) mj_c184 = true := by decide +kernel
set_option maxRecDepth 100000 in
theorem mj_e185 : mj_chk (⟨"PacketSieveModel", "is", "(I)Z"⟩, prog_13_method_60_code, 2, (some .boolean), 11, []) mj_c185 = true := by decide +kernel
set_option maxRecDepth 100000 in
theorem mj_e186 : mj_chk (⟨"PacketSieveModel", "isPort", "(I)Z"⟩, prog_13_method_64_code, 6, (some .boolean), 11, []) mj_c186 = true := by decide +kernel
set_option maxRecDepth 100000 in
theorem mj_e187 : mj_chk (⟨"PacketSieveModel", "isWhole", "()Z"⟩, prog_13_method_61_code, 1, (some .boolean), 11, []) mj_c187 = true := by decide +kernel
set_option maxRecDepth 100000 in
theorem mj_e188 : mj_chk (⟨"PacketSieveModel", "head", "()J"⟩, prog_13_method_62_code, 1, (some .long), 11, []) mj_c188 = true := by decide +kernel
set_option maxRecDepth 100000 in
theorem mj_e189 : mj_chk (⟨"PacketSieveModel", "isSide", "(IJJI)Z"⟩, prog_13_method_63_code, 10, (some .boolean), 11, []) mj_c189 = true := by decide +kernel
set_option maxRecDepth 100000 in
theorem mj_e190 : mj_chk (⟨"PacketSieveModel", "isRelated", "(I)Z"⟩, prog_13_method_67_code, 8, (some .boolean), 11, []) mj_c190 = true := by decide +kernel
