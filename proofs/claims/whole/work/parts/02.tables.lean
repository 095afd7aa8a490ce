/-- an instruction in the tables: it, its length, two numbers, a constant, the goals of a switch -/
abbrev mj_E : Type := Instr × Nat × Nat × Nat × Value × List (Int32 × Nat)
abbrev mj_X : Type := MethodName × ByteArray × Nat × Option FieldType × Nat × List (Nat × Nat × Nat × Nat)
def mj_cns : List String := ["PacketSieve$Coder", "PacketSieve$Filter", "PacketSieve$Judge", "PacketSieve$Machine", "PacketSieve$Packet", "PacketSieve$Parser", "PacketSieve$Program", "PacketSieve$Text", "PacketSieve$Tokens", "PacketSieve$Tree", "PacketSieve", "PacketSieveModel", "PacketSieveLaw"]
def mj_cn (ci : Nat) : String := mj_cns.getD ci ""
/-- a class: its fields in the order of the slots: name, descriptor, final, type -/
def mj_fls : List (List (String × String × Bool × FieldType)) := [
  [("tree", "LPacketSieve$Tree;", true, (.object "PacketSieve$Tree")), ("program", "LPacketSieve$Program;", true, (.object "PacketSieve$Program"))],
  [("program", "LPacketSieve$Program;", true, (.object "PacketSieve$Program")), ("parser", "LPacketSieve$Parser;", true, (.object "PacketSieve$Parser")), ("coder", "LPacketSieve$Coder;", true, (.object "PacketSieve$Coder")), ("judge", "LPacketSieve$Judge;", true, (.object "PacketSieve$Judge"))],
  [("tree", "LPacketSieve$Tree;", true, (.object "PacketSieve$Tree")), ("packet", "LPacketSieve$Packet;", true, (.object "PacketSieve$Packet")), ("worth", "[J", true, (.array .long))],
  [("packet", "LPacketSieve$Packet;", true, (.object "PacketSieve$Packet")), ("cells", "[J", true, (.array .long)), ("a", "J", false, .long), ("x", "J", false, .long), ("done", "I", false, .int)],
  [("bytes", "[I", true, (.array .int)), ("length", "I", false, .int)],
  [("tree", "LPacketSieve$Tree;", true, (.object "PacketSieve$Tree")), ("tokens", "LPacketSieve$Tokens;", true, (.object "PacketSieve$Tokens")), ("at", "I", false, .int), ("depth", "I", false, .int)],
  [("operations", "[I", true, (.array .int)), ("waysIfSo", "[I", true, (.array .int)), ("waysIfNot", "[I", true, (.array .int)), ("numbers", "[J", true, (.array .long)), ("start", "I", false, .int)],
  [("characters", "[B", true, (.array .byte)), ("length", "I", false, .int)],
  [("kinds", "[I", true, (.array .int)), ("numbers", "[J", true, (.array .long)), ("count", "I", false, .int)],
  [("kind", "[I", true, (.array .int)), ("sort", "[I", true, (.array .int)), ("left", "[I", true, (.array .int)), ("right", "[I", true, (.array .int)), ("first", "[I", true, (.array .int)), ("number", "[J", true, (.array .long)), ("mask", "[J", true, (.array .long)), ("size", "I", false, .int)],
  [("snap", "I", true, .int), ("text", "LPacketSieve$Text;", true, (.object "PacketSieve$Text")), ("packet", "LPacketSieve$Packet;", true, (.object "PacketSieve$Packet")), ("machine", "LPacketSieve$Machine;", true, (.object "PacketSieve$Machine")), ("filter", "LPacketSieve$Filter;", false, (.object "PacketSieve$Filter")), ("spare", "LPacketSieve$Filter;", false, (.object "PacketSieve$Filter"))],
  [("refusal", "I", false, .int), ("typedCount", "I", false, .int), ("at", "I", false, .int), ("place", "I", false, .int), ("tokenKind", "I", false, .int), ("typed", "[C", false, (.array .char)), ("token", "J", false, .long), ("bad", "Z", false, .boolean), ("snap", "J", false, .long), ("nodes", "I", false, .int), ("operands", "I", false, .int), ("signs", "I", false, .int), ("deep", "I", false, .int), ("kind", "[I", false, (.array .int)), ("what", "[I", false, (.array .int)), ("left", "[I", false, (.array .int)), ("right", "[I", false, (.array .int)), ("low", "[I", false, (.array .int)), ("holds", "[I", false, (.array .int)), ("fails", "[I", false, (.array .int)), ("number", "[J", false, (.array .long)), ("operand", "[I", false, (.array .int)), ("sign", "[I", false, (.array .int)), ("side", "[I", false, (.array .int)), ("start", "[I", false, (.array .int)), ("root", "I", false, .int), ("oldKind", "[I", false, (.array .int)), ("oldWhat", "[I", false, (.array .int)), ("oldLeft", "[I", false, (.array .int)), ("oldRight", "[I", false, (.array .int)), ("oldLow", "[I", false, (.array .int)), ("oldHolds", "[I", false, (.array .int)), ("oldFails", "[I", false, (.array .int)), ("oldNumber", "[J", false, (.array .long)), ("value", "[J", false, (.array .long)), ("codes", "I", false, .int), ("program", "I", false, .int), ("tooLong", "Z", false, .boolean), ("op", "[I", false, (.array .int)), ("so", "[I", false, (.array .int)), ("not", "[I", false, (.array .int)), ("with", "[J", false, (.array .long)), ("programOp", "[I", false, (.array .int)), ("programSo", "[I", false, (.array .int)), ("programNot", "[I", false, (.array .int)), ("programWith", "[J", false, (.array .long)), ("tasks", "I", false, .int), ("taskOp", "[I", false, (.array .int)), ("taskWith", "[J", false, (.array .long)), ("taskNode", "[I", false, (.array .int)), ("length", "I", false, .int), ("done", "I", false, .int), ("packet", "[I", false, (.array .int)), ("rejects", "Z", false, .boolean), ("a", "J", false, .long), ("x", "J", false, .long), ("cell", "[J", false, (.array .long))]]
def mj_fl (ci : Nat) : List (String × String × Bool × FieldType) := mj_fls.getD ci []
def mj_ft (ci k : Nat) : FieldType := ((mj_fl ci).getD k ("", "", false, .int)).2.2.2
def mj_T (ci : Nat) : u_T := fun k => match (mj_fl ci)[k]? with
  | some f => (mj_cn ci, f.1, f.2.1, f.2.2.1)
  | none => ("", "", "", false)
def mj_cls : List vw_C := (List.range 12).map (fun ci => (mj_cn ci, mj_T ci, (mj_fl ci).length))
/-- the cells in the order in which they are made: (0, class, fields) or (1, element type: 0 int 1 long 2 byte 3 char, length) -/
def mj_shs : List (Nat × Nat × Nat) := [(0, 10, 6), (0, 7, 2), (1, 2, 160), (0, 4, 2), (1, 0, 80), (0, 3, 5), (1, 1, 16), (0, 1, 4), (0, 9, 8), (1, 0, 160), (1, 0, 160), (1, 0, 160), (1, 0, 160), (1, 0, 160), (1, 1, 160), (1, 1, 160), (0, 6, 5), (1, 0, 150), (1, 0, 150), (1, 0, 150), (1, 1, 150), (0, 5, 4), (0, 8, 3), (1, 0, 160), (1, 1, 160), (0, 0, 2), (0, 2, 3), (1, 1, 160), (0, 1, 4), (0, 9, 8), (1, 0, 160), (1, 0, 160), (1, 0, 160), (1, 0, 160), (1, 0, 160), (1, 1, 160), (1, 1, 160), (0, 6, 5), (1, 0, 150), (1, 0, 150), (1, 0, 150), (1, 1, 150), (0, 5, 4), (0, 8, 3), (1, 0, 160), (1, 1, 160), (0, 0, 2), (0, 2, 3), (1, 1, 160), (0, 11, 57), (1, 3, 160), (1, 0, 170), (1, 0, 170), (1, 0, 170), (1, 0, 170), (1, 0, 170), (1, 0, 170), (1, 0, 170), (1, 1, 170), (1, 0, 170), (1, 0, 170), (1, 0, 170), (1, 0, 170), (1, 0, 170), (1, 0, 170), (1, 0, 170), (1, 0, 170), (1, 0, 170), (1, 0, 170), (1, 0, 170), (1, 1, 170), (1, 1, 170), (1, 0, 150), (1, 0, 150), (1, 0, 150), (1, 1, 150), (1, 0, 150), (1, 0, 150), (1, 0, 150), (1, 1, 150), (1, 0, 900), (1, 1, 900), (1, 0, 900), (1, 0, 80), (1, 1, 16), (1, 1, 1)]
def mj_sh (r : Nat) : Nat × Nat × Nat := mj_shs.getD r (2, 0, 0)
def mj_str : List (Nat × Nat × String) := [(8, 71, "ip"), (8, 77, "tcp"), (8, 79, "udp"), (8, 81, "ether"), (8, 83, "len"), (8, 85, "src"), (8, 87, "dst"), (8, 89, "host"), (8, 91, "net"), (8, 93, "port"), (8, 95, "and"), (8, 97, "or"), (8, 99, "not")]
/-- the strings of the class, as numbers -/
def mj_sc : List (List Nat) := [[105, 112], [116, 99, 112], [117, 100, 112], [101, 116, 104, 101, 114], [108, 101, 110], [115, 114, 99], [100, 115, 116], [104, 111, 115, 116], [110, 101, 116], [112, 111, 114, 116], [97, 110, 100], [111, 114], [110, 111, 116]]
abbrev kCoder_init : Nat := 0
abbrev kCoder_translate : Nat := 1
abbrev kCoder_condition : Nat := 2
abbrev kCoder_protocol : Nat := 3
abbrev kCoder_field : Nat := 4
abbrev kCoder_port : Nat := 5
abbrev kCoder_ends : Nat := 6
abbrev kCoder_end : Nat := 7
abbrev kCoder_fieldAtX : Nat := 8
abbrev kCoder_whole : Nat := 9
abbrev kCoder_relation : Nat := 10
abbrev kCoder_comparison : Nat := 11
abbrev kCoder_testOf : Nat := 12
abbrev kCoder_value : Nat := 13
abbrev kCoder_isPairWithNumber : Nat := 14
abbrev kCoder_access : Nat := 15
abbrev kCoder_useCell : Nat := 16
abbrev kCoder_twoValues : Nat := 17
abbrev kFilter_init : Nat := 18
abbrev kJudge_init : Nat := 19
abbrev kJudge_judge : Nat := 20
abbrev kJudge_verdict : Nat := 21
abbrev kJudge_protocol : Nat := 22
abbrev kJudge_same : Nat := 23
abbrev kJudge_port : Nat := 24
abbrev kJudge_whole : Nat := 25
abbrev kJudge_ends : Nat := 26
abbrev kJudge_relation : Nat := 27
abbrev kJudge_protocols : Nat := 28
abbrev kJudge_wholeProtocol : Nat := 29
abbrev kJudge_value : Nat := 30
abbrev kJudge_access : Nat := 31
abbrev kJudge_compares : Nat := 32
abbrev kJudge_address : Nat := 33
abbrev kMachine_init : Nat := 34
abbrev kMachine_report : Nat := 35
abbrev kMachine_execute : Nat := 36
abbrev kMachine_reset : Nat := 37
abbrev kMachine_passes : Nat := 38
abbrev kMachine_works : Nat := 39
abbrev kMachine_takesX : Nat := 40
abbrev kMachine_takesA : Nat := 41
abbrev kMachine_fieldOrSum : Nat := 42
abbrev kPacket_init : Nat := 43
abbrev kPacket_hasRoom : Nat := 44
abbrev kPacket_append : Nat := 45
abbrev kPacket_length : Nat := 46
abbrev kPacket_shorten : Nat := 47
abbrev kPacket_replace : Nat := 48
abbrev kPacket_protocolNumber : Nat := 49
abbrev kPacket_field : Nat := 50
abbrev kPacket_headerLength : Nat := 51
abbrev kParser_init : Nat := 52
abbrev kParser_parse : Nat := 53
abbrev kParser_filter : Nat := 54
abbrev kParser_part : Nat := 55
abbrev kParser_unit : Nat := 56
abbrev kParser_accept : Nat := 57
abbrev kParser_unitWithoutNot : Nat := 58
abbrev kParser_enter : Nat := 59
abbrev kParser_leave : Nat := 60
abbrev kParser_expect : Nat := 61
abbrev kParser_protocolOf : Nat := 62
abbrev kParser_isEndWord : Nat := 63
abbrev kParser_endPrimitive : Nat := 64
abbrev kParser_address : Nat := 65
abbrev kParser_numberUpTo : Nat := 66
abbrev kParser_relation : Nat := 67
abbrev kParser_value : Nat := 68
abbrev kParser_item : Nat := 69
abbrev kParser_access : Nat := 70
abbrev kParser_strength : Nat := 71
abbrev kParser_signNumber : Nat := 72
abbrev kParser_isRelationSign : Nat := 73
abbrev kProgram_init : Nat := 74
abbrev kProgram_size : Nat := 75
abbrev kProgram_operation : Nat := 76
abbrev kProgram_wayIfSo : Nat := 77
abbrev kProgram_wayIfNot : Nat := 78
abbrev kProgram_number : Nat := 79
abbrev kProgram_empty : Nat := 80
abbrev kProgram_prepend : Nat := 81
abbrev kProgram_start : Nat := 82
abbrev kProgram_prependTest : Nat := 83
abbrev kText_init : Nat := 84
abbrev kText_length : Nat := 85
abbrev kText_empty : Nat := 86
abbrev kText_areCharacters : Nat := 87
abbrev kText_hasRoom : Nat := 88
abbrev kText_append : Nat := 89
abbrev kText_at : Nat := 90
abbrev kText_spells : Nat := 91
abbrev kTokens_init : Nat := 92
abbrev kTokens_read : Nat := 93
abbrev kTokens_readToken : Nat := 94
abbrev kTokens_isLetter : Nat := 95
abbrev kTokens_readWord : Nat := 96
abbrev kTokens_wordKind : Nat := 97
abbrev kTokens_isDigit : Nat := 98
abbrev kTokens_readNumber : Nat := 99
abbrev kTokens_readSign : Nat := 100
abbrev kTokens_kind : Nat := 101
abbrev kTokens_number : Nat := 102
abbrev kTree_init : Nat := 103
abbrev kTree_empty : Nat := 104
abbrev kTree_addLeaf : Nat := 105
abbrev kTree_addJoint : Nat := 106
abbrev kTree_size : Nat := 107
abbrev kTree_addAccess : Nat := 108
abbrev kTree_addRelation : Nat := 109
abbrev kTree_isNumber : Nat := 110
abbrev kSieve_init : Nat := 111
abbrev kSieve_clear : Nat := 112
abbrev kSieve_instruction : Nat := 113
abbrev kSieve_put : Nat := 114
abbrev kSieve_isByteCount : Nat := 115
abbrev kSieve_byteOf : Nat := 116
abbrev kSieve_cut : Nat := 117
abbrev kSieve_set : Nat := 118
abbrev kSieve_state : Nat := 119
abbrev kSieve_type : Nat := 120
abbrev kSieve_compile : Nat := 121
abbrev kSieve_holds : Nat := 122
abbrev kSieve_combine : Nat := 123
abbrev kSieve_run : Nat := 124
abbrev kModel_init : Nat := 125
abbrev kModel_thrown : Nat := 126
abbrev kModel_type : Nat := 127
abbrev kModel_isCharacter : Nat := 128
abbrev kModel_clear : Nat := 129
abbrev kModel_compile : Nat := 130
abbrev kModel_reads : Nat := 131
abbrev kModel_take : Nat := 132
abbrev kModel_character : Nat := 133
abbrev kModel_isLetter : Nat := 134
abbrev kModel_isDigit : Nat := 135
abbrev kModel_isTwo : Nat := 136
abbrev kModel_begins : Nat := 137
abbrev kModel_protocol : Nat := 138
abbrev kModel_isWord : Nat := 139
abbrev kModel_isSign : Nat := 140
abbrev kModel_open : Nat := 141
abbrev kModel_hold : Nat := 142
abbrev kModel_node : Nat := 143
abbrev kModel_primitive : Nat := 144
abbrev kModel_address : Nat := 145
abbrev kModel_need : Nat := 146
abbrev kModel_needNumber : Nat := 147
abbrev kModel_goesOn : Nat := 148
abbrev kModel_strength : Nat := 149
abbrev kModel_reduceTo : Nat := 150
abbrev kModel_reduce : Nat := 151
abbrev kModel_pop : Nat := 152
abbrev kModel_isValue : Nat := 153
abbrev kModel_numberOf : Nat := 154
abbrev kModel_closeSquare : Nat := 155
abbrev kModel_close : Nat := 156
abbrev kModel_refuse : Nat := 157
abbrev kModel_link : Nat := 158
abbrev kModel_firstLeaf : Nat := 159
abbrev kModel_emitLeaf : Nat := 160
abbrev kModel_emitProtocol : Nat := 161
abbrev kModel_plain : Nat := 162
abbrev kModel_emit : Nat := 163
abbrev kModel_emitIp : Nat := 164
abbrev kModel_maskOf : Nat := 165
abbrev kModel_emitSides : Nat := 166
abbrev kModel_emitPort : Nat := 167
abbrev kModel_emitWhole : Nat := 168
abbrev kModel_emitRelation : Nat := 169
abbrev kModel_hasAccess : Nat := 170
abbrev kModel_emitValue : Nat := 171
abbrev kModel_task : Nat := 172
abbrev kModel_unfold : Nat := 173
abbrev kModel_unfoldAccess : Nat := 174
abbrev kModel_takeProgram : Nat := 175
abbrev kModel_way : Nat := 176
abbrev kModel_instruction : Nat := 177
abbrev kModel_put : Nat := 178
abbrev kModel_cut : Nat := 179
abbrev kModel_set : Nat := 180
abbrev kModel_holds : Nat := 181
abbrev kModel_isLeaf : Nat := 182
abbrev kModel_isIp : Nat := 183
abbrev kModel_field : Nat := 184
abbrev kModel_is : Nat := 185
abbrev kModel_isPort : Nat := 186
abbrev kModel_isWhole : Nat := 187
abbrev kModel_head : Nat := 188
abbrev kModel_isSide : Nat := 189
abbrev kModel_isRelated : Nat := 190
abbrev kModel_hasOld : Nat := 191
abbrev kModel_valueOf : Nat := 192
abbrev kModel_worked : Nat := 193
abbrev kModel_run : Nat := 194
abbrev kModel_doIt : Nat := 195
abbrev kModel_isSo : Nat := 196
abbrev kModel_state : Nat := 197
abbrev kLaw_cell : Nat := 198
abbrev kLaw_type : Nat := 199
abbrev kLaw_compile : Nat := 200
abbrev kLaw_holds : Nat := 201
abbrev kLaw_run : Nat := 202
abbrev kLaw_law : Nat := 203
def mj_mt0 : List mj_X := [
  (⟨"PacketSieve$Coder", "<init>", "(LPacketSieve$Tree;LPacketSieve$Program;)V"⟩, prog_2_method_1_code, 3, none, 0, []),
  (⟨"PacketSieve$Coder", "translate", "(I)V"⟩, prog_2_method_2_code, 4, none, 0, []),
  (⟨"PacketSieve$Coder", "condition", "(III)V"⟩, prog_2_method_3_code, 4, none, 0, []),
  (⟨"PacketSieve$Coder", "protocol", "(III)V"⟩, prog_2_method_4_code, 5, none, 0, []),
  (⟨"PacketSieve$Coder", "field", "(JI)V"⟩, prog_2_method_16_code, 4, none, 0, []),
  (⟨"PacketSieve$Coder", "port", "(III)V"⟩, prog_2_method_6_code, 5, none, 0, []),
  (⟨"PacketSieve$Coder", "ends", "(IIIII)V"⟩, prog_2_method_7_code, 7, none, 0, []),
  (⟨"PacketSieve$Coder", "end", "(IIII)V"⟩, prog_2_method_8_code, 5, none, 0, []),
  (⟨"PacketSieve$Coder", "fieldAtX", "(II)V"⟩, prog_2_method_17_code, 3, none, 0, []),
  (⟨"PacketSieve$Coder", "whole", "(I)V"⟩, prog_2_method_5_code, 2, none, 0, []),
  (⟨"PacketSieve$Coder", "relation", "(III)V"⟩, prog_2_method_9_code, 8, none, 0, []),
  (⟨"PacketSieve$Coder", "comparison", "(III)V"⟩, prog_2_method_10_code, 7, none, 0, [])]
def mj_mt1 : List mj_X := [
  (⟨"PacketSieve$Coder", "testOf", "(I)I"⟩, prog_2_method_11_code, 1, some .int, 0, []),
  (⟨"PacketSieve$Coder", "value", "(II)V"⟩, prog_2_method_12_code, 5, none, 0, []),
  (⟨"PacketSieve$Coder", "isPairWithNumber", "(I)Z"⟩, prog_2_method_13_code, 2, some .boolean, 0, []),
  (⟨"PacketSieve$Coder", "access", "(II)V"⟩, prog_2_method_15_code, 7, none, 0, []),
  (⟨"PacketSieve$Coder", "useCell", "(II)V"⟩, prog_2_method_18_code, 3, none, 0, []),
  (⟨"PacketSieve$Coder", "twoValues", "(III)V"⟩, prog_2_method_14_code, 4, none, 0, []),
  (⟨"PacketSieve$Filter", "<init>", "(LPacketSieve$Packet;)V"⟩, prog_3_method_1_code, 3, none, 1, []),
  (⟨"PacketSieve$Judge", "<init>", "(LPacketSieve$Tree;LPacketSieve$Packet;)V"⟩, prog_4_method_1_code, 3, none, 2, []),
  (⟨"PacketSieve$Judge", "judge", "()I"⟩, prog_4_method_2_code, 1, some .int, 2, []),
  (⟨"PacketSieve$Judge", "verdict", "(I)I"⟩, prog_4_method_3_code, 3, some .int, 2, []),
  (⟨"PacketSieve$Judge", "protocol", "(I)I"⟩, prog_4_method_4_code, 3, some .int, 2, []),
  (⟨"PacketSieve$Judge", "same", "(JJJ)I"⟩, prog_4_method_14_code, 6, some .int, 2, [])]
def mj_mt2 : List mj_X := [
  (⟨"PacketSieve$Judge", "port", "(I)I"⟩, prog_4_method_7_code, 5, some .int, 2, []),
  (⟨"PacketSieve$Judge", "whole", "()I"⟩, prog_4_method_5_code, 1, some .int, 2, []),
  (⟨"PacketSieve$Judge", "ends", "(IJJI)I"⟩, prog_4_method_8_code, 8, some .int, 2, []),
  (⟨"PacketSieve$Judge", "relation", "(I)I"⟩, prog_4_method_9_code, 7, some .int, 2, []),
  (⟨"PacketSieve$Judge", "protocols", "(I)I"⟩, prog_4_method_10_code, 3, some .int, 2, []),
  (⟨"PacketSieve$Judge", "wholeProtocol", "(I)I"⟩, prog_4_method_11_code, 3, some .int, 2, []),
  (⟨"PacketSieve$Judge", "value", "(I)J"⟩, prog_4_method_12_code, 2, some .long, 2, []),
  (⟨"PacketSieve$Judge", "access", "(IJI)J"⟩, prog_4_method_13_code, 7, some .long, 2, []),
  (⟨"PacketSieve$Judge", "compares", "(IJJ)Z"⟩, prog_4_method_15_code, 5, some .boolean, 2, []),
  (⟨"PacketSieve$Judge", "address", "(I)I"⟩, prog_4_method_6_code, 3, some .int, 2, []),
  (⟨"PacketSieve$Machine", "<init>", "(LPacketSieve$Packet;)V"⟩, prog_5_method_1_code, 2, none, 3, []),
  (⟨"PacketSieve$Machine", "report", "(I)I"⟩, prog_5_method_2_code, 2, some .int, 3, [])]
def mj_mt3 : List mj_X := [
  (⟨"PacketSieve$Machine", "execute", "(LPacketSieve$Program;)I"⟩, prog_5_method_3_code, 7, some .int, 3, []),
  (⟨"PacketSieve$Machine", "reset", "()V"⟩, prog_5_method_4_code, 2, none, 3, []),
  (⟨"PacketSieve$Machine", "passes", "(IJ)Z"⟩, prog_5_method_5_code, 7, some .boolean, 3, []),
  (⟨"PacketSieve$Machine", "works", "(IJ)Z"⟩, prog_5_method_6_code, 5, some .boolean, 3, []),
  (⟨"PacketSieve$Machine", "takesX", "(J)Z"⟩, prog_5_method_9_code, 3, some .boolean, 3, []),
  (⟨"PacketSieve$Machine", "takesA", "(J)Z"⟩, prog_5_method_8_code, 3, some .boolean, 3, []),
  (⟨"PacketSieve$Machine", "fieldOrSum", "(IJ)J"⟩, prog_5_method_7_code, 4, some .long, 3, []),
  (⟨"PacketSieve$Packet", "<init>", "()V"⟩, prog_6_method_1_code, 1, none, 4, []),
  (⟨"PacketSieve$Packet", "hasRoom", "(I)Z"⟩, prog_6_method_4_code, 2, some .boolean, 4, []),
  (⟨"PacketSieve$Packet", "append", "(JI)V"⟩, prog_6_method_5_code, 5, none, 4, []),
  (⟨"PacketSieve$Packet", "length", "()I"⟩, prog_6_method_3_code, 1, some .int, 4, []),
  (⟨"PacketSieve$Packet", "shorten", "(I)V"⟩, prog_6_method_6_code, 2, none, 4, [])]
def mj_mt4 : List mj_X := [
  (⟨"PacketSieve$Packet", "replace", "(II)I"⟩, prog_6_method_7_code, 4, some .int, 4, []),
  (⟨"PacketSieve$Packet", "protocolNumber", "(I)I"⟩, prog_6_method_2_code, 1, some .int, 4, []),
  (⟨"PacketSieve$Packet", "field", "(JI)J"⟩, prog_6_method_8_code, 7, some .long, 4, []),
  (⟨"PacketSieve$Packet", "headerLength", "(J)J"⟩, prog_6_method_9_code, 5, some .long, 4, []),
  (⟨"PacketSieve$Parser", "<init>", "(LPacketSieve$Tree;)V"⟩, prog_7_method_1_code, 2, none, 5, []),
  (⟨"PacketSieve$Parser", "parse", "(LPacketSieve$Text;)V"⟩, prog_7_method_2_code, 2, none, 5, []),
  (⟨"PacketSieve$Parser", "filter", "()I"⟩, prog_7_method_3_code, 4, some .int, 5, []),
  (⟨"PacketSieve$Parser", "part", "()I"⟩, prog_7_method_4_code, 4, some .int, 5, []),
  (⟨"PacketSieve$Parser", "unit", "()I"⟩, prog_7_method_5_code, 3, some .int, 5, []),
  (⟨"PacketSieve$Parser", "accept", "(I)Z"⟩, prog_7_method_15_code, 3, some .boolean, 5, []),
  (⟨"PacketSieve$Parser", "unitWithoutNot", "()I"⟩, prog_7_method_6_code, 3, some .int, 5, []),
  (⟨"PacketSieve$Parser", "enter", "()V"⟩, prog_7_method_13_code, 1, none, 5, [])]
def mj_mt5 : List mj_X := [
  (⟨"PacketSieve$Parser", "leave", "(I)V"⟩, prog_7_method_14_code, 2, none, 5, []),
  (⟨"PacketSieve$Parser", "expect", "(I)V"⟩, prog_7_method_16_code, 2, none, 5, []),
  (⟨"PacketSieve$Parser", "protocolOf", "(I)I"⟩, prog_7_method_18_code, 1, some .int, 5, []),
  (⟨"PacketSieve$Parser", "isEndWord", "(I)Z"⟩, prog_7_method_19_code, 1, some .boolean, 5, []),
  (⟨"PacketSieve$Parser", "endPrimitive", "(I)I"⟩, prog_7_method_7_code, 6, some .int, 5, []),
  (⟨"PacketSieve$Parser", "address", "()J"⟩, prog_7_method_8_code, 4, some .long, 5, []),
  (⟨"PacketSieve$Parser", "numberUpTo", "(J)J"⟩, prog_7_method_17_code, 5, some .long, 5, []),
  (⟨"PacketSieve$Parser", "relation", "()I"⟩, prog_7_method_9_code, 5, some .int, 5, []),
  (⟨"PacketSieve$Parser", "value", "(I)I"⟩, prog_7_method_10_code, 6, some .int, 5, []),
  (⟨"PacketSieve$Parser", "item", "()I"⟩, prog_7_method_11_code, 2, some .int, 5, []),
  (⟨"PacketSieve$Parser", "access", "()I"⟩, prog_7_method_12_code, 5, some .int, 5, []),
  (⟨"PacketSieve$Parser", "strength", "(I)I"⟩, prog_7_method_21_code, 1, some .int, 5, [])]
def mj_mt6 : List mj_X := [
  (⟨"PacketSieve$Parser", "signNumber", "(I)I"⟩, prog_7_method_22_code, 1, some .int, 5, []),
  (⟨"PacketSieve$Parser", "isRelationSign", "(I)Z"⟩, prog_7_method_20_code, 1, some .boolean, 5, []),
  (⟨"PacketSieve$Program", "<init>", "()V"⟩, prog_8_method_1_code, 1, none, 6, []),
  (⟨"PacketSieve$Program", "size", "()I"⟩, prog_8_method_3_code, 1, some .int, 6, []),
  (⟨"PacketSieve$Program", "operation", "(I)I"⟩, prog_8_method_5_code, 2, some .int, 6, []),
  (⟨"PacketSieve$Program", "wayIfSo", "(I)I"⟩, prog_8_method_6_code, 2, some .int, 6, []),
  (⟨"PacketSieve$Program", "wayIfNot", "(I)I"⟩, prog_8_method_7_code, 2, some .int, 6, []),
  (⟨"PacketSieve$Program", "number", "(I)J"⟩, prog_8_method_8_code, 2, some .long, 6, []),
  (⟨"PacketSieve$Program", "empty", "()V"⟩, prog_8_method_2_code, 1, none, 6, []),
  (⟨"PacketSieve$Program", "prepend", "(IJ)V"⟩, prog_8_method_9_code, 4, none, 6, []),
  (⟨"PacketSieve$Program", "start", "()I"⟩, prog_8_method_4_code, 1, some .int, 6, []),
  (⟨"PacketSieve$Program", "prependTest", "(IJII)V"⟩, prog_8_method_10_code, 7, none, 6, [])]
def mj_mt7 : List mj_X := [
  (⟨"PacketSieve$Text", "<init>", "()V"⟩, prog_9_method_1_code, 1, none, 7, []),
  (⟨"PacketSieve$Text", "length", "()I"⟩, prog_9_method_3_code, 1, some .int, 7, []),
  (⟨"PacketSieve$Text", "empty", "()V"⟩, prog_9_method_6_code, 1, none, 7, []),
  (⟨"PacketSieve$Text", "areCharacters", "(JI)Z"⟩, prog_9_method_2_code, 5, some .boolean, 7, []),
  (⟨"PacketSieve$Text", "hasRoom", "(I)Z"⟩, prog_9_method_4_code, 2, some .boolean, 7, []),
  (⟨"PacketSieve$Text", "append", "(JI)V"⟩, prog_9_method_5_code, 5, none, 7, []),
  (⟨"PacketSieve$Text", "at", "(I)I"⟩, prog_9_method_7_code, 2, some .int, 7, []),
  (⟨"PacketSieve$Text", "spells", "(Ljava/lang/String;II)Z"⟩, prog_9_method_8_code, 5, some .boolean, 7, []),
  (⟨"PacketSieve$Tokens", "<init>", "()V"⟩, prog_10_method_1_code, 1, none, 8, []),
  (⟨"PacketSieve$Tokens", "read", "(LPacketSieve$Text;)V"⟩, prog_10_method_4_code, 4, none, 8, []),
  (⟨"PacketSieve$Tokens", "readToken", "(LPacketSieve$Text;I)I"⟩, prog_10_method_5_code, 3, some .int, 8, []),
  (⟨"PacketSieve$Tokens", "isLetter", "(I)Z"⟩, prog_10_method_9_code, 1, some .boolean, 8, [])]
def mj_mt8 : List mj_X := [
  (⟨"PacketSieve$Tokens", "readWord", "(LPacketSieve$Text;I)I"⟩, prog_10_method_6_code, 4, some .int, 8, []),
  (⟨"PacketSieve$Tokens", "wordKind", "(LPacketSieve$Text;II)I"⟩, prog_10_method_11_code, 3, some .int, 8, []),
  (⟨"PacketSieve$Tokens", "isDigit", "(I)Z"⟩, prog_10_method_10_code, 1, some .boolean, 8, []),
  (⟨"PacketSieve$Tokens", "readNumber", "(LPacketSieve$Text;I)I"⟩, prog_10_method_7_code, 6, some .int, 8, []),
  (⟨"PacketSieve$Tokens", "readSign", "(LPacketSieve$Text;I)I"⟩, prog_10_method_8_code, 5, some .int, 8, []),
  (⟨"PacketSieve$Tokens", "kind", "(I)I"⟩, prog_10_method_2_code, 2, some .int, 8, []),
  (⟨"PacketSieve$Tokens", "number", "(I)J"⟩, prog_10_method_3_code, 2, some .long, 8, []),
  (⟨"PacketSieve$Tree", "<init>", "()V"⟩, prog_11_method_1_code, 1, none, 9, []),
  (⟨"PacketSieve$Tree", "empty", "()V"⟩, prog_11_method_2_code, 1, none, 9, []),
  (⟨"PacketSieve$Tree", "addLeaf", "(IIJJ)I"⟩, prog_11_method_5_code, 8, some .int, 9, []),
  (⟨"PacketSieve$Tree", "addJoint", "(IIII)I"⟩, prog_11_method_6_code, 6, some .int, 9, []),
  (⟨"PacketSieve$Tree", "size", "()I"⟩, prog_11_method_3_code, 1, some .int, 9, [])]
def mj_mt9 : List mj_X := [
  (⟨"PacketSieve$Tree", "addAccess", "(IIJ)I"⟩, prog_11_method_7_code, 6, some .int, 9, []),
  (⟨"PacketSieve$Tree", "addRelation", "(IIII)I"⟩, prog_11_method_8_code, 7, some .int, 9, []),
  (⟨"PacketSieve$Tree", "isNumber", "(I)Z"⟩, prog_11_method_4_code, 2, some .boolean, 9, []),
  (⟨"PacketSieve", "<init>", "(I)V"⟩, prog_1_method_1_code, 2, none, 10, []),
  (⟨"PacketSieve", "clear", "()I"⟩, prog_1_method_3_code, 2, some .int, 10, []),
  (⟨"PacketSieve", "instruction", "(II)I"⟩, prog_1_method_5_code, 3, some .int, 10, []),
  (⟨"PacketSieve", "put", "(JI)I"⟩, prog_1_method_6_code, 4, some .int, 10, []),
  (⟨"PacketSieve", "isByteCount", "(I)Z"⟩, prog_1_method_12_code, 1, some .boolean, 10, []),
  (⟨"PacketSieve", "byteOf", "(JI)I"⟩, prog_1_method_13_code, 3, some .int, 10, []),
  (⟨"PacketSieve", "cut", "(I)I"⟩, prog_1_method_7_code, 3, some .int, 10, []),
  (⟨"PacketSieve", "set", "(II)I"⟩, prog_1_method_8_code, 3, some .int, 10, []),
  (⟨"PacketSieve", "state", "(I)I"⟩, prog_1_method_11_code, 2, some .int, 10, [])]
def mj_mt10 : List mj_X := [
  (⟨"PacketSieve", "type", "(JI)I"⟩, prog_1_method_2_code, 4, some .int, 10, []),
  (⟨"PacketSieve", "compile", "()I"⟩, prog_1_method_4_code, 2, some .int, 10, []),
  (⟨"PacketSieve", "holds", "()I"⟩, prog_1_method_9_code, 1, some .int, 10, []),
  (⟨"PacketSieve", "combine", "(IJJ)J"⟩, prog_1_method_14_code, 5, some .long, 10, []),
  (⟨"PacketSieve", "run", "()I"⟩, prog_1_method_10_code, 1, some .int, 10, []),
  (⟨"PacketSieveModel", "<init>", "(I)V"⟩, prog_13_method_1_code, 2, none, 11, []),
  (⟨"PacketSieveModel", "thrown", "()I"⟩, prog_13_method_2_code, 1, some .int, 11, []),
  (⟨"PacketSieveModel", "type", "(JI)I"⟩, prog_13_method_5_code, 6, some .int, 11, []),
  (⟨"PacketSieveModel", "isCharacter", "(J)Z"⟩, prog_13_method_4_code, 2, some .boolean, 11, []),
  (⟨"PacketSieveModel", "clear", "()I"⟩, prog_13_method_6_code, 2, some .int, 11, []),
  (⟨"PacketSieveModel", "compile", "()I"⟩, prog_13_method_52_code, 2, some .int, 11, []),
  (⟨"PacketSieveModel", "reads", "()Z"⟩, prog_13_method_32_code, 2, some .boolean, 11, [])]
def mj_mt11 : List mj_X := [
  (⟨"PacketSieveModel", "take", "()V"⟩, prog_13_method_11_code, 4, none, 11, []),
  (⟨"PacketSieveModel", "character", "(I)I"⟩, prog_13_method_7_code, 2, some .int, 11, []),
  (⟨"PacketSieveModel", "isLetter", "(I)Z"⟩, prog_13_method_8_code, 1, some .boolean, 11, []),
  (⟨"PacketSieveModel", "isDigit", "(I)Z"⟩, prog_13_method_9_code, 1, some .boolean, 11, []),
  (⟨"PacketSieveModel", "isTwo", "(II)Z"⟩, prog_13_method_10_code, 2, some .boolean, 11, []),
  (⟨"PacketSieveModel", "begins", "()Z"⟩, prog_13_method_28_code, 5, some .boolean, 11, []),
  (⟨"PacketSieveModel", "protocol", "()I"⟩, prog_13_method_27_code, 1, some .int, 11, []),
  (⟨"PacketSieveModel", "isWord", "(J)Z"⟩, prog_13_method_12_code, 3, some .boolean, 11, []),
  (⟨"PacketSieveModel", "isSign", "(J)Z"⟩, prog_13_method_13_code, 3, some .boolean, 11, []),
  (⟨"PacketSieveModel", "open", "(II)V"⟩, prog_13_method_20_code, 3, none, 11, []),
  (⟨"PacketSieveModel", "hold", "(II)V"⟩, prog_13_method_19_code, 3, none, 11, []),
  (⟨"PacketSieveModel", "node", "(IIIIJ)V"⟩, prog_13_method_16_code, 7, none, 11, [])]
def mj_mt12 : List mj_X := [
  (⟨"PacketSieveModel", "primitive", "(I)V"⟩, prog_13_method_26_code, 7, none, 11, []),
  (⟨"PacketSieveModel", "address", "()J"⟩, prog_13_method_25_code, 4, some .long, 11, []),
  (⟨"PacketSieveModel", "need", "(J)V"⟩, prog_13_method_14_code, 3, none, 11, []),
  (⟨"PacketSieveModel", "needNumber", "(J)J"⟩, prog_13_method_15_code, 5, some .long, 11, []),
  (⟨"PacketSieveModel", "goesOn", "()Z"⟩, prog_13_method_31_code, 2, some .boolean, 11, []),
  (⟨"PacketSieveModel", "strength", "()I"⟩, prog_13_method_21_code, 1, some .int, 11, []),
  (⟨"PacketSieveModel", "reduceTo", "(I)V"⟩, prog_13_method_24_code, 2, none, 11, []),
  (⟨"PacketSieveModel", "reduce", "()V"⟩, prog_13_method_23_code, 5, none, 11, []),
  (⟨"PacketSieveModel", "pop", "()I"⟩, prog_13_method_18_code, 1, some .int, 11, []),
  (⟨"PacketSieveModel", "isValue", "(I)Z"⟩, prog_13_method_17_code, 2, some .boolean, 11, []),
  (⟨"PacketSieveModel", "numberOf", "()I"⟩, prog_13_method_22_code, 2, some .int, 11, []),
  (⟨"PacketSieveModel", "closeSquare", "()V"⟩, prog_13_method_30_code, 5, none, 11, [])]
def mj_mt13 : List mj_X := [
  (⟨"PacketSieveModel", "close", "(I)V"⟩, prog_13_method_29_code, 2, none, 11, []),
  (⟨"PacketSieveModel", "refuse", "(I)I"⟩, prog_13_method_3_code, 2, some .int, 11, []),
  (⟨"PacketSieveModel", "link", "()V"⟩, prog_13_method_34_code, 4, none, 11, []),
  (⟨"PacketSieveModel", "firstLeaf", "(I)I"⟩, prog_13_method_33_code, 3, some .int, 11, []),
  (⟨"PacketSieveModel", "emitLeaf", "(I)V"⟩, prog_13_method_49_code, 2, none, 11, []),
  (⟨"PacketSieveModel", "emitProtocol", "(III)V"⟩, prog_13_method_38_code, 4, none, 11, []),
  (⟨"PacketSieveModel", "plain", "(IJ)V"⟩, prog_13_method_36_code, 4, none, 11, []),
  (⟨"PacketSieveModel", "emit", "(IJII)V"⟩, prog_13_method_35_code, 6, none, 11, []),
  (⟨"PacketSieveModel", "emitIp", "(I)V"⟩, prog_13_method_37_code, 2, none, 11, []),
  (⟨"PacketSieveModel", "maskOf", "(I)J"⟩, prog_13_method_40_code, 1, some .long, 11, []),
  (⟨"PacketSieveModel", "emitSides", "(IIJJJ)V"⟩, prog_13_method_41_code, 13, none, 11, []),
  (⟨"PacketSieveModel", "emitPort", "(I)V"⟩, prog_13_method_42_code, 2, none, 11, [])]
def mj_mt14 : List mj_X := [
  (⟨"PacketSieveModel", "emitWhole", "(I)V"⟩, prog_13_method_39_code, 2, none, 11, []),
  (⟨"PacketSieveModel", "emitRelation", "(I)V"⟩, prog_13_method_48_code, 7, none, 11, []),
  (⟨"PacketSieveModel", "hasAccess", "(II)Z"⟩, prog_13_method_43_code, 5, some .boolean, 11, []),
  (⟨"PacketSieveModel", "emitValue", "(IJ)V"⟩, prog_13_method_47_code, 5, none, 11, []),
  (⟨"PacketSieveModel", "task", "(IJI)V"⟩, prog_13_method_44_code, 5, none, 11, []),
  (⟨"PacketSieveModel", "unfold", "(IJ)V"⟩, prog_13_method_45_code, 6, none, 11, []),
  (⟨"PacketSieveModel", "unfoldAccess", "(IJ)V"⟩, prog_13_method_46_code, 6, none, 11, []),
  (⟨"PacketSieveModel", "takeProgram", "()V"⟩, prog_13_method_51_code, 2, none, 11, []),
  (⟨"PacketSieveModel", "way", "(II)I"⟩, prog_13_method_50_code, 3, some .int, 11, []),
  (⟨"PacketSieveModel", "instruction", "(II)I"⟩, prog_13_method_53_code, 3, some .int, 11, []),
  (⟨"PacketSieveModel", "put", "(JI)I"⟩, prog_13_method_54_code, 5, some .int, 11, []),
  (⟨"PacketSieveModel", "cut", "(I)I"⟩, prog_13_method_55_code, 3, some .int, 11, [])]
def mj_mt15 : List mj_X := [
  (⟨"PacketSieveModel", "set", "(II)I"⟩, prog_13_method_56_code, 4, some .int, 11, []),
  (⟨"PacketSieveModel", "holds", "()I"⟩, prog_13_method_69_code, 2, some .int, 11, []),
  (⟨"PacketSieveModel", "isLeaf", "(I)Z"⟩, prog_13_method_68_code, 2, some .boolean, 11, []),
  (⟨"PacketSieveModel", "isIp", "()Z"⟩, prog_13_method_59_code, 1, some .boolean, 11, []),
  (⟨"PacketSieveModel", "field", "(JI)J"⟩, prog_13_method_57_code, 7, some .long, 11, []),
  (⟨"PacketSieveModel", "is", "(I)Z"⟩, prog_13_method_60_code, 2, some .boolean, 11, []),
  (⟨"PacketSieveModel", "isPort", "(I)Z"⟩, prog_13_method_64_code, 6, some .boolean, 11, []),
  (⟨"PacketSieveModel", "isWhole", "()Z"⟩, prog_13_method_61_code, 1, some .boolean, 11, []),
  (⟨"PacketSieveModel", "head", "()J"⟩, prog_13_method_62_code, 1, some .long, 11, []),
  (⟨"PacketSieveModel", "isSide", "(IJJI)Z"⟩, prog_13_method_63_code, 10, some .boolean, 11, []),
  (⟨"PacketSieveModel", "isRelated", "(I)Z"⟩, prog_13_method_67_code, 8, some .boolean, 11, []),
  (⟨"PacketSieveModel", "hasOld", "(II)Z"⟩, prog_13_method_65_code, 5, some .boolean, 11, [])]
def mj_mt16 : List mj_X := [
  (⟨"PacketSieveModel", "valueOf", "(I)J"⟩, prog_13_method_66_code, 6, some .long, 11, []),
  (⟨"PacketSieveModel", "worked", "(IJJ)J"⟩, prog_13_method_58_code, 6, some .long, 11, []),
  (⟨"PacketSieveModel", "run", "()I"⟩, prog_13_method_72_code, 5, some .int, 11, []),
  (⟨"PacketSieveModel", "doIt", "(IJ)V"⟩, prog_13_method_70_code, 6, none, 11, []),
  (⟨"PacketSieveModel", "isSo", "(IJ)Z"⟩, prog_13_method_71_code, 7, some .boolean, 11, []),
  (⟨"PacketSieveModel", "state", "(I)I"⟩, prog_13_method_73_code, 2, some .int, 11, []),
  (⟨"PacketSieveLaw", "cell", "([II)I"⟩, method_2_code, 2, some .int, 12, []),
  (⟨"PacketSieveLaw", "type", "(LPacketSieve;JI[J)I"⟩, method_3_code, 6, some .int, 12, [(0, 11, 14, 13), (0, 11, 18, 15)]),
  (⟨"PacketSieveLaw", "compile", "(LPacketSieve;[J)I"⟩, method_4_code, 3, some .int, 12, [(0, 8, 11, 13), (0, 8, 14, 21)]),
  (⟨"PacketSieveLaw", "holds", "(LPacketSieve;[J)I"⟩, method_5_code, 3, some .int, 12, [(0, 8, 11, 15)]),
  (⟨"PacketSieveLaw", "run", "(LPacketSieve;[J)I"⟩, method_6_code, 3, some .int, 12, [(0, 8, 11, 15)]),
  (⟨"PacketSieveLaw", "law", "([I)Z"⟩, code, 7, some .boolean, 12, [])]
def mj_mts : List (List mj_X) := [mj_mt0, mj_mt1, mj_mt2, mj_mt3, mj_mt4, mj_mt5, mj_mt6, mj_mt7, mj_mt8, mj_mt9, mj_mt10, mj_mt11, mj_mt12, mj_mt13, mj_mt14, mj_mt15, mj_mt16]
def mj_mt (k : Nat) : Option mj_X := (mj_mts.getD (k / 12) [])[k % 12]?
def mj_hd (k : Nat) : List (Nat × Nat × Nat × Nat) :=
  bif Nat.beq k 199 then [(0, 11, 14, 0), (0, 11, 18, 1)] else
  bif Nat.beq k 200 then [(0, 8, 11, 0), (0, 8, 14, 2)] else
  bif Nat.beq k 201 then [(0, 8, 11, 1)] else
  bif Nat.beq k 202 then [(0, 8, 11, 1)] else
  []
/-- field links: (own class, pool number, class, field, place in tables_1) -/
def mj_fk : List (Nat × Nat × Nat × Nat × Nat) := [(0, 9, 0, 0, 199), (0, 15, 0, 1, 200), (0, 41, 9, 0, 99), (0, 45, 9, 3, 108), (0, 48, 9, 2, 106), (0, 51, 9, 1, 102), (0, 101, 9, 5, 113), (0, 105, 9, 6, 116), (1, 13, 1, 0, 222), (1, 24, 1, 1, 224), (1, 33, 1, 2, 226), (1, 42, 1, 3, 228), (2, 9, 2, 0, 212), (2, 15, 2, 1, 213), (2, 21, 2, 2, 214), (2, 33, 9, 0, 100), (2, 37, 9, 2, 105), (2, 40, 9, 3, 109), (2, 43, 9, 1, 103), (2, 102, 9, 5, 114), (2, 105, 9, 6, 117), (2, 111, 9, 4, 111), (3, 9, 3, 0, 69), (3, 15, 3, 1, 70), (3, 19, 3, 4, 73), (3, 23, 3, 2, 71), (3, 27, 3, 3, 72), (4, 11, 4, 0, 55), (4, 15, 4, 1, 56), (5, 9, 5, 0, 180), (5, 18, 5, 1, 181), (5, 31, 5, 2, 182), (5, 35, 5, 3, 183), (6, 9, 6, 0, 142), (6, 13, 6, 1, 143), (6, 16, 6, 2, 144), (6, 19, 6, 3, 145), (6, 23, 6, 4, 146), (7, 9, 7, 0, 41), (7, 19, 7, 1, 42), (8, 13, 8, 0, 170), (8, 17, 8, 1, 171), (8, 21, 8, 2, 172), (9, 11, 9, 0, 98), (9, 15, 9, 1, 101), (9, 18, 9, 2, 104), (9, 21, 9, 3, 107), (9, 24, 9, 4, 110), (9, 27, 9, 5, 112), (9, 31, 9, 6, 115), (9, 34, 9, 7, 118), (10, 13, 10, 0, 239), (10, 22, 10, 1, 240), (10, 29, 10, 2, 241), (10, 38, 10, 3, 242), (10, 45, 10, 4, 243), (10, 49, 10, 5, 244), (10, 80, 1, 1, 225), (10, 90, 1, 2, 227), (10, 100, 1, 0, 223), (10, 132, 1, 3, 229), (11, 7, 11, 5, 944), (11, 13, 11, 13, 952), (11, 17, 11, 14, 953), (11, 20, 11, 15, 954), (11, 23, 11, 16, 955), (11, 26, 11, 17, 956), (11, 29, 11, 18, 957), (11, 32, 11, 19, 958), (11, 35, 11, 20, 959), (11, 39, 11, 21, 960), (11, 42, 11, 22, 961), (11, 45, 11, 23, 962), (11, 48, 11, 24, 963), (11, 51, 11, 25, 964), (11, 55, 11, 26, 965), (11, 58, 11, 27, 966), (11, 61, 11, 28, 967), (11, 64, 11, 29, 968), (11, 67, 11, 30, 969), (11, 70, 11, 31, 970), (11, 73, 11, 32, 971), (11, 76, 11, 33, 972), (11, 79, 11, 34, 973), (11, 82, 11, 38, 977), (11, 85, 11, 39, 978), (11, 88, 11, 40, 979), (11, 91, 11, 41, 980), (11, 94, 11, 42, 981), (11, 97, 11, 43, 982), (11, 100, 11, 44, 983), (11, 103, 11, 45, 984), (11, 106, 11, 47, 986), (11, 109, 11, 48, 987), (11, 112, 11, 49, 988), (11, 115, 11, 52, 991), (11, 118, 11, 56, 995), (11, 121, 11, 8, 947), (11, 125, 11, 0, 940), (11, 138, 11, 1, 941), (11, 141, 11, 3, 942), (11, 148, 11, 6, 945), (11, 158, 11, 4, 943), (11, 169, 11, 7, 946), (11, 185, 11, 9, 948), (11, 188, 11, 10, 949), (11, 191, 11, 11, 950), (11, 194, 11, 12, 951), (11, 341, 11, 37, 976), (11, 344, 11, 35, 974), (11, 385, 11, 46, 985), (11, 422, 11, 36, 975), (11, 444, 11, 50, 989), (11, 447, 11, 53, 992), (11, 491, 11, 55, 994), (11, 494, 11, 54, 993), (11, 497, 11, 51, 990)]
/-- method links: (own class, pool number, method, arguments, place in tables_1) -/
def mj_mk : List (Nat × Nat × Nat × Nat × Nat) := [(0, 19, 80, 0, 681), (0, 24, 81, 2, 685), (0, 28, 82, 0, 704), (0, 32, 107, 0, 708), (0, 37, 2, 3, 709), (0, 54, 3, 3, 713), (0, 57, 5, 3, 732), (0, 60, 10, 3, 755), (0, 65, 6, 5, 736), (0, 69, 49, 1, 717), (0, 73, 83, 4, 720), (0, 79, 4, 2, 726), (0, 93, 9, 1, 749), (0, 97, 7, 4, 740), (0, 108, 8, 2, 744), (0, 114, 11, 3, 759), (0, 121, 12, 1, 763), (0, 124, 110, 1, 766), (0, 128, 13, 2, 770), (0, 131, 17, 3, 789), (0, 134, 14, 1, 774), (0, 137, 15, 2, 778), (0, 140, 16, 2, 783), (1, 9, 103, 0, 94), (1, 12, 74, 0, 138), (1, 21, 52, 1, 160), (1, 30, 0, 2, 195), (1, 39, 19, 2, 208), (2, 25, 107, 0, 806), (2, 29, 21, 1, 807), (2, 46, 22, 1, 811), (2, 49, 24, 1, 829), (2, 52, 27, 1, 852), (2, 55, 33, 1, 882), (2, 62, 50, 2, 816), (2, 70, 23, 3, 823), (2, 76, 49, 1, 828), (2, 87, 26, 4, 848), (2, 91, 25, 0, 833), (2, 96, 51, 1, 840), (2, 108, 28, 1, 856), (2, 114, 30, 1, 864), (2, 120, 32, 3, 879), (2, 124, 29, 1, 860), (2, 127, 46, 0, 868), (2, 130, 31, 3, 869), (2, 134, 123, 3, 873), (3, 30, 37, 0, 899), (3, 35, 75, 0, 903), (3, 39, 76, 1, 904), (3, 43, 79, 1, 905), (3, 47, 38, 2, 906), (3, 51, 77, 1, 910), (3, 54, 78, 1, 911), (3, 57, 39, 2, 912), (3, 60, 51, 1, 916), (3, 66, 40, 1, 917), (3, 70, 41, 1, 922), (3, 73, 46, 0, 926), (3, 76, 42, 2, 927), (3, 80, 123, 3, 931), (3, 86, 50, 2, 933), (4, 19, 116, 2, 309), (4, 25, 50, 2, 844), (5, 17, 92, 0, 166), (5, 22, 93, 1, 454), (5, 26, 104, 0, 561), (5, 38, 54, 0, 565), (5, 42, 61, 1, 599), (5, 46, 55, 0, 569), (5, 49, 57, 1, 577), (5, 53, 106, 4, 669), (5, 57, 56, 0, 573), (5, 60, 58, 0, 585), (5, 63, 59, 0, 589), (5, 66, 60, 1, 595), (5, 69, 101, 1, 581), (5, 73, 62, 1, 603), (5, 76, 105, 4, 606), (5, 80, 63, 1, 614), (5, 83, 64, 1, 617), (5, 86, 67, 0, 637), (5, 89, 65, 0, 621), (5, 97, 66, 1, 626), (5, 105, 107, 0, 641), (5, 108, 68, 1, 645), (5, 111, 73, 1, 670), (5, 117, 109, 4, 673), (5, 120, 69, 0, 649), (5, 123, 71, 1, 663), (5, 126, 72, 1, 666), (5, 129, 70, 0, 653), (5, 136, 108, 3, 659), (5, 140, 102, 1, 630), (6, 30, 81, 2, 724), (7, 13, 116, 2, 355), (7, 28, 90, 1, 492), (8, 25, 85, 0, 458), (8, 29, 90, 1, 459), (8, 33, 94, 2, 463), (8, 37, 95, 1, 467), (8, 41, 96, 2, 470), (8, 44, 98, 1, 543), (8, 47, 99, 2, 546), (8, 50, 100, 2, 557), (8, 53, 97, 3, 474), (8, 73, 91, 3, 478), (9, 38, 106, 4, 610), (10, 21, 84, 0, 37), (10, 28, 43, 0, 51), (10, 35, 34, 1, 65), (10, 44, 18, 1, 88), (10, 52, 115, 1, 298), (10, 56, 87, 2, 352), (10, 63, 88, 1, 419), (10, 69, 89, 2, 438), (10, 73, 85, 0, 262), (10, 77, 86, 0, 266), (10, 84, 53, 1, 450), (10, 94, 1, 1, 677), (10, 104, 75, 0, 274), (10, 109, 76, 1, 278), (10, 113, 77, 1, 282), (10, 116, 78, 1, 286), (10, 119, 79, 1, 290), (10, 123, 44, 1, 301), (10, 124, 45, 2, 305), (10, 125, 46, 0, 312), (10, 126, 47, 1, 320), (10, 129, 48, 2, 328), (10, 136, 20, 0, 802), (10, 140, 36, 1, 895), (10, 144, 35, 1, 336), (11, 134, 128, 1, 1121), (11, 144, 133, 1, 1142), (11, 151, 134, 1, 1146), (11, 155, 135, 1, 1149), (11, 173, 136, 2, 1156), (11, 179, 140, 1, 1177), (11, 182, 132, 0, 1138), (11, 197, 142, 2, 1185), (11, 233, 152, 0, 1252), (11, 237, 153, 1, 1256), (11, 240, 143, 5, 1189), (11, 244, 151, 0, 1248), (11, 249, 146, 1, 1211), (11, 253, 147, 1, 1215), (11, 259, 139, 1, 1169), (11, 266, 145, 0, 1206), (11, 280, 138, 0, 1164), (11, 285, 141, 2, 1181), (11, 300, 144, 1, 1199), (11, 304, 150, 1, 1244), (11, 309, 156, 1, 1270), (11, 318, 149, 0, 1225), (11, 321, 154, 0, 1260), (11, 324, 155, 0, 1266), (11, 331, 137, 0, 1160), (11, 335, 148, 0, 1221), (11, 338, 159, 1, 1286), (11, 349, 163, 4, 1303), (11, 355, 162, 2, 1299), (11, 371, 164, 1, 1312), (11, 374, 168, 1, 1329), (11, 381, 166, 5, 1321), (11, 388, 174, 2, 1357), (11, 391, 172, 3, 1349), (11, 395, 173, 2, 1353), (11, 398, 170, 2, 1341), (11, 401, 161, 3, 1294), (11, 405, 171, 2, 1345), (11, 412, 165, 1, 1318), (11, 416, 167, 1, 1325), (11, 419, 169, 1, 1337), (11, 425, 176, 2, 1365), (11, 429, 131, 0, 1134), (11, 432, 157, 1, 1278), (11, 435, 158, 0, 1282), (11, 438, 160, 1, 1290), (11, 441, 175, 0, 1361), (11, 452, 184, 2, 1397), (11, 456, 183, 0, 1393), (11, 459, 187, 0, 1409), (11, 462, 188, 0, 1413), (11, 465, 189, 4, 1417), (11, 469, 193, 3, 1433), (11, 473, 191, 2, 1425), (11, 476, 185, 1, 1401), (11, 479, 192, 1, 1429), (11, 482, 186, 1, 1405), (11, 485, 190, 1, 1421), (11, 488, 182, 1, 1389), (11, 500, 195, 2, 1442), (11, 503, 196, 2, 1446), (12, 7, 120, 2, 348), (12, 17, 121, 0, 446), (12, 23, 122, 0, 798), (12, 26, 124, 0, 891), (12, 29, 198, 2, 340), (12, 35, 111, 1, 26), (12, 40, 125, 1, 936), (12, 43, 199, 4, 343), (12, 46, 127, 2, 1116), (12, 47, 126, 0, 1112), (12, 50, 112, 0, 258), (12, 53, 129, 0, 1126), (12, 54, 200, 2, 442), (12, 57, 130, 0, 1130), (12, 58, 113, 2, 270), (12, 62, 177, 2, 1369), (12, 63, 114, 2, 294), (12, 66, 178, 2, 1373), (12, 67, 117, 1, 316), (12, 71, 179, 1, 1377), (12, 72, 118, 2, 324), (12, 75, 180, 2, 1381), (12, 76, 201, 2, 795), (12, 78, 181, 0, 1385), (12, 79, 202, 2, 888), (12, 81, 194, 0, 1438), (12, 82, 119, 1, 332), (12, 85, 197, 1, 1450)]
/-- class links: (own class, pool number, class, place in tables_1) -/
def mj_ck : List (Nat × Nat × Nat × Nat) := [(1, 7, 9, 92), (1, 10, 6, 136), (1, 19, 5, 158), (1, 28, 0, 193), (1, 37, 2, 206), (5, 15, 8, 164), (10, 19, 7, 35), (10, 26, 4, 49), (10, 33, 3, 63), (10, 42, 1, 86), (12, 8, 10, 24), (12, 38, 11, 934)]
