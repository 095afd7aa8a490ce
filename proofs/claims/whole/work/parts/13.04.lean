set_option maxRecDepth 100000 in
theorem mj_e101 : mj_chk (⟨"PacketSieve$Tokens", "kind", "(I)I"⟩, prog_10_method_2_code, 2, (some .int), 8, []) mj_c101 = true := by decide +kernel
set_option maxRecDepth 100000 in
theorem mj_e102 : mj_chk (⟨"PacketSieve$Tokens", "number", "(I)J"⟩, prog_10_method_3_code, 2, (some .long), 8, []) mj_c102 = true := by decide +kernel
set_option maxRecDepth 100000 in
theorem mj_e103 : mj_chk (⟨"PacketSieve$Tree", "<init>", "()V"⟩, prog_11_method_1_code, 1, none, 9, []) mj_c103 = true := by decide +kernel
set_option maxRecDepth 100000 in
theorem mj_e104 : mj_chk (⟨"PacketSieve$Tree", "empty", "()V"⟩, prog_11_method_2_code, 1, none, 9, []) mj_c104 = true := by decide +kernel
set_option maxRecDepth 100000 in
theorem mj_e105 : mj_chk (⟨"PacketSieve$Tree", "addLeaf", "(IIJJ)I"⟩, prog_11_method_5_code, 8, (some .int), 9, []) mj_c105 = true := by decide +kernel
set_option maxRecDepth 100000 in
theorem mj_e106 : mj_chk (⟨"PacketSieve$Tree", "addJoint", "(IIII)I"⟩, prog_11_method_6_code, 6, (some .int), 9, []) mj_c106 = true := by decide +kernel
set_option maxRecDepth 100000 in
theorem mj_e107 : mj_chk (⟨"PacketSieve$Tree", "size", "()I"⟩, prog_11_method_3_code, 1, (some .int), 9, []) mj_c107 = true := by decide +kernel
set_option maxRecDepth 100000 in
theorem mj_e108 : mj_chk (⟨"PacketSieve$Tree", "addAccess", "(IIJ)I"⟩, prog_11_method_7_code, 6, (some .int), 9, []) mj_c108 = true := by decide +kernel
set_option maxRecDepth 100000 in
theorem mj_e109 : mj_chk (⟨"PacketSieve$Tree", "addRelation", "(IIII)I"⟩, prog_11_method_8_code, 7, (some .int), 9, []) mj_c109 = true := by decide +kernel
set_option maxRecDepth 100000 in
theorem mj_e110 : mj_chk (⟨"PacketSieve$Tree", "isNumber", "(I)Z"⟩, prog_11_method_4_code, 2, (some .boolean), 9, []) mj_c110 = true := by decide +kernel
set_option maxRecDepth 100000 in
theorem mj_e111 : mj_chk (⟨"PacketSieve", "<init>", "(I)V"⟩, prog_1_method_1_code, 2, none, 10, []) mj_c111 = true := by decide +kernel
set_option maxRecDepth 100000 in
theorem mj_e112 : mj_chk (⟨"PacketSieve", "clear", "()I"⟩, prog_1_method_3_code, 2, (some .int), 10, []) mj_c112 = true := by decide +kernel
set_option maxRecDepth 100000 in
theorem mj_e113 : mj_chk (⟨"PacketSieve", "instruction", "(II)I"⟩, prog_1_method_5_code, 3, (some .int), 10, []) mj_c113 = true := by decide +kernel
set_option maxRecDepth 100000 in
theorem mj_e114 : mj_chk (⟨"PacketSieve", "put", "(JI)I"⟩, prog_1_method_6_code, 4, (some .int), 10, []) mj_c114 = true := by decide +kernel
set_option maxRecDepth 100000 in
theorem mj_e115 : mj_chk (⟨"PacketSieve", "isByteCount", "(I)Z"⟩, prog_1_method_12_code, 1, (some .boolean), 10, []) mj_c115 = true := by decide +kernel
set_option maxRecDepth 100000 in
theorem mj_e116 : mj_chk (⟨"PacketSieve", "byteOf", "(JI)I"⟩, prog_1_method_13_code, 3, (some .int), 10, []) mj_c116 = true := by decide +kernel
set_option maxRecDepth 100000 in
theorem mj_e117 : mj_chk (⟨"PacketSieve", "cut", "(I)I"⟩, prog_1_method_7_code, 3, (some .int), 10, []) mj_c117 = true := by decide +kernel
set_option maxRecDepth 100000 in
theorem mj_e118 : mj_chk (⟨"PacketSieve", "set", "(II)I"⟩, prog_1_method_8_code, 3, (some .int), 10, []) mj_c118 = true := by decide +kernel
set_option maxRecDepth 100000 in
theorem mj_e119 : mj_chk (⟨"PacketSieve", "state", "(I)I"⟩, prog_1_method_11_code, 2, (some .int), 10, []) mj_c119 = true := by decide +kernel
set_option maxRecDepth 100000 in
theorem mj_e120 : mj_chk (⟨"PacketSieve", "type", "(JI)I"⟩, prog_1_method_2_code, 4, (some .int), 10, []) mj_c120 = true := by decide +kernel
set_option maxRecDepth 100000 in
theorem mj_e121 : mj_chk (⟨"PacketSieve", "compile", "()I"⟩, prog_1_method_4_code, 2, (some .int), 10, []) mj_c121 = true := by decide +kernel
set_option maxRecDepth 100000 in
theorem mj_e122 : mj_chk (⟨"PacketSieve", "holds", "()I"⟩, prog_1_method_9_code, 1, (some .int), 10, []) mj_c122 = true := by decide +kernel
set_option maxRecDepth 100000 in
theorem mj_e123 : mj_chk (⟨"PacketSieve", "combine", "(IJJ)J"⟩, prog_1_method_14_code, 5, (some .long), 10, []) mj_c123 = true := by decide +kernel
set_option maxRecDepth 100000 in
theorem mj_e124 : mj_chk (⟨"PacketSieve", "run", "()I"⟩, prog_1_method_10_code, 1, (some .int), 10, []) mj_c124 = true := by decide +kernel
set_option maxRecDepth 100000 in
theorem mj_e125 : mj_chk (⟨"PacketSieveModel", "<init>", "(I)V"⟩, prog_13_method_1_code, 2, none, 11, []) mj_c125 = true := by decide +kernel
set_option maxRecDepth 100000 in
theorem mj_e126 : mj_chk (⟨"PacketSieveModel", "thrown", "()I"⟩, prog_13_method_2_code, 1, (some .int), 11, []) mj_c126 = true := by decide +kernel
set_option maxRecDepth 100000 in
theorem mj_e127 : mj_chk (⟨"PacketSieveModel", "type", "(JI)I"⟩, prog_13_method_5_code, 6, (some .int), 11, []) mj_c127 = true := by decide +kernel
