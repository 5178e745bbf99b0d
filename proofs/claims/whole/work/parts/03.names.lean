theorem zk_1 {w : Cond} (h : w ∈ tables_1_1) : w ∈ lw_tbl := List.mem_append_right _ (show w ∈ tables_1 from List.mem_append_left _ h)
theorem zk_2 {w : Cond} (h : w ∈ tables_1_2) : w ∈ lw_tbl := List.mem_append_right _ (show w ∈ tables_1 from List.mem_append_right _ (List.mem_append_left _ h))
theorem zk_3 {w : Cond} (h : w ∈ tables_1_3) : w ∈ lw_tbl := List.mem_append_right _ (show w ∈ tables_1 from List.mem_append_right _ (List.mem_append_right _ (List.mem_append_left _ h)))
theorem zk_4 {w : Cond} (h : w ∈ tables_1_4) : w ∈ lw_tbl := List.mem_append_right _ (show w ∈ tables_1 from List.mem_append_right _ (List.mem_append_right _ (List.mem_append_right _ (List.mem_append_left _ h))))
theorem zk_5 {w : Cond} (h : w ∈ tables_1_5) : w ∈ lw_tbl := List.mem_append_right _ (show w ∈ tables_1 from List.mem_append_right _ (List.mem_append_right _ (List.mem_append_right _ (List.mem_append_right _ (h)))))
theorem kw_1 : (Jvm.Cond.initialized "FrameMachine") ∈ lw_tbl := zk_1 (List.mem_of_getElem? (i := 1) rfl)
theorem kw_2 : (Jvm.Cond.initialized "FrameMachine$Devices") ∈ lw_tbl := zk_1 (List.mem_of_getElem? (i := 2) rfl)
theorem kw_3 : (Jvm.Cond.initialized "FrameMachine$Bus") ∈ lw_tbl := zk_1 (List.mem_of_getElem? (i := 3) rfl)
theorem kw_4 : (Jvm.Cond.initialized "FrameMachine$Registers") ∈ lw_tbl := zk_1 (List.mem_of_getElem? (i := 4) rfl)
theorem kw_5 : (Jvm.Cond.initialized "FrameMachine$Pointers") ∈ lw_tbl := zk_1 (List.mem_of_getElem? (i := 5) rfl)
theorem kw_6 : (Jvm.Cond.initialized "FrameMachine$Exceptions") ∈ lw_tbl := zk_1 (List.mem_of_getElem? (i := 6) rfl)
theorem kw_7 : (Jvm.Cond.initialized "FrameMachine$Processor") ∈ lw_tbl := zk_1 (List.mem_of_getElem? (i := 7) rfl)
theorem kw_8 : (Jvm.Cond.initialized "FrameMachine$Instruction") ∈ lw_tbl := zk_1 (List.mem_of_getElem? (i := 8) rfl)
theorem kw_9 : (Jvm.Cond.initialized "FrameMachine$Operand") ∈ lw_tbl := zk_1 (List.mem_of_getElem? (i := 9) rfl)
theorem kw_10 : (Jvm.Cond.initialized "FrameMachine$Arithmetic") ∈ lw_tbl := zk_1 (List.mem_of_getElem? (i := 10) rfl)
theorem kw_11 : (Jvm.Cond.initialized "FrameMachineModel") ∈ lw_tbl := zk_1 (List.mem_of_getElem? (i := 11) rfl)
theorem kw_30 : (Jvm.Cond.fieldLink "FrameMachine$Devices" (11 : Nat) "FrameMachine$Devices" "reload" "I") ∈ lw_tbl := zk_1 (List.mem_of_getElem? (i := 30) rfl)
theorem kw_31 : (Jvm.Cond.fieldLink "FrameMachine$Devices" (15 : Nat) "FrameMachine$Devices" "count" "I") ∈ lw_tbl := zk_1 (List.mem_of_getElem? (i := 31) rfl)
theorem kw_32 : (Jvm.Cond.fieldLinkNest "FrameMachine" (133 : Nat) "FrameMachine$Devices" "count" "I" "FrameMachine") ∈ lw_tbl := zk_1 (List.mem_of_getElem? (i := 32) rfl)
theorem kw_33 : (Jvm.Cond.fieldLink "FrameMachine$Devices" (22 : Nat) "FrameMachine$Devices" "runs" "Z") ∈ lw_tbl := zk_1 (List.mem_of_getElem? (i := 33) rfl)
theorem kw_34 : (Jvm.Cond.fieldLink "FrameMachine$Devices" (26 : Nat) "FrameMachine$Devices" "due" "Z") ∈ lw_tbl := zk_1 (List.mem_of_getElem? (i := 34) rfl)
theorem kw_35 : (Jvm.Cond.fieldLink "FrameMachine$Devices" (29 : Nat) "FrameMachine$Devices" "came" "Z") ∈ lw_tbl := zk_1 (List.mem_of_getElem? (i := 35) rfl)
theorem kw_36 : (Jvm.Cond.fieldLink "FrameMachine$Devices" (32 : Nat) "FrameMachine$Devices" "cameByte" "I") ∈ lw_tbl := zk_1 (List.mem_of_getElem? (i := 36) rfl)
theorem kw_37 : (Jvm.Cond.fieldLink "FrameMachine$Devices" (35 : Nat) "FrameMachine$Devices" "lost" "Z") ∈ lw_tbl := zk_1 (List.mem_of_getElem? (i := 37) rfl)
theorem kw_38 : (Jvm.Cond.fieldLink "FrameMachine$Devices" (38 : Nat) "FrameMachine$Devices" "stepsToSend" "I") ∈ lw_tbl := zk_1 (List.mem_of_getElem? (i := 38) rfl)
theorem kw_39 : (Jvm.Cond.fieldLink "FrameMachine$Devices" (41 : Nat) "FrameMachine$Devices" "sendingByte" "I") ∈ lw_tbl := zk_1 (List.mem_of_getElem? (i := 39) rfl)
theorem kw_40 : (Jvm.Cond.fieldLink "FrameMachine$Devices" (50 : Nat) "FrameMachine$Devices" "sentCount" "I") ∈ lw_tbl := zk_1 (List.mem_of_getElem? (i := 40) rfl)
theorem kw_41 : (Jvm.Cond.fieldLinkNest "FrameMachine" (130 : Nat) "FrameMachine$Devices" "sentCount" "I" "FrameMachine") ∈ lw_tbl := zk_1 (List.mem_of_getElem? (i := 41) rfl)
theorem kw_42 : (Jvm.Cond.fieldLink "FrameMachine$Devices" (18 : Nat) "FrameMachine$Devices" "sent" "[I") ∈ lw_tbl := zk_1 (List.mem_of_getElem? (i := 42) rfl)
theorem kw_43 : (Jvm.Cond.lays "FrameMachine$Devices" "FrameMachine$Devices" "reload" "I") ∈ lw_tbl := zk_1 (List.mem_of_getElem? (i := 43) rfl)
theorem kw_45 : (Jvm.Cond.lays "FrameMachine$Devices" "FrameMachine$Devices" "count" "I") ∈ lw_tbl := zk_1 (List.mem_of_getElem? (i := 45) rfl)
theorem kw_47 : (Jvm.Cond.lays "FrameMachine$Devices" "FrameMachine$Devices" "runs" "Z") ∈ lw_tbl := zk_1 (List.mem_of_getElem? (i := 47) rfl)
theorem kw_49 : (Jvm.Cond.lays "FrameMachine$Devices" "FrameMachine$Devices" "due" "Z") ∈ lw_tbl := zk_1 (List.mem_of_getElem? (i := 49) rfl)
theorem kw_51 : (Jvm.Cond.lays "FrameMachine$Devices" "FrameMachine$Devices" "came" "Z") ∈ lw_tbl := zk_1 (List.mem_of_getElem? (i := 51) rfl)
theorem kw_53 : (Jvm.Cond.lays "FrameMachine$Devices" "FrameMachine$Devices" "cameByte" "I") ∈ lw_tbl := zk_1 (List.mem_of_getElem? (i := 53) rfl)
theorem kw_55 : (Jvm.Cond.lays "FrameMachine$Devices" "FrameMachine$Devices" "lost" "Z") ∈ lw_tbl := zk_1 (List.mem_of_getElem? (i := 55) rfl)
theorem kw_57 : (Jvm.Cond.lays "FrameMachine$Devices" "FrameMachine$Devices" "stepsToSend" "I") ∈ lw_tbl := zk_1 (List.mem_of_getElem? (i := 57) rfl)
theorem kw_59 : (Jvm.Cond.lays "FrameMachine$Devices" "FrameMachine$Devices" "sendingByte" "I") ∈ lw_tbl := zk_1 (List.mem_of_getElem? (i := 59) rfl)
theorem kw_61 : (Jvm.Cond.lays "FrameMachine$Devices" "FrameMachine$Devices" "sentCount" "I") ∈ lw_tbl := zk_1 (List.mem_of_getElem? (i := 61) rfl)
theorem kw_63 : (Jvm.Cond.laysFinal "FrameMachine$Devices" "FrameMachine$Devices" "sent" "[I") ∈ lw_tbl := zk_1 (List.mem_of_getElem? (i := 63) rfl)
theorem kw_73 : (Jvm.Cond.fieldLink "FrameMachine$Bus" (9 : Nat) "FrameMachine$Bus" "memory" "[B") ∈ lw_tbl := zk_1 (List.mem_of_getElem? (i := 73) rfl)
theorem kw_74 : (Jvm.Cond.fieldLink "FrameMachine$Bus" (15 : Nat) "FrameMachine$Bus" "devices" "LFrameMachine$Devices;") ∈ lw_tbl := zk_1 (List.mem_of_getElem? (i := 74) rfl)
theorem kw_75 : (Jvm.Cond.fieldLinkNest "FrameMachine$Processor" (62 : Nat) "FrameMachine$Bus" "devices" "LFrameMachine$Devices;" "FrameMachine") ∈ lw_tbl := zk_1 (List.mem_of_getElem? (i := 75) rfl)
theorem kw_76 : (Jvm.Cond.fieldLinkNest "FrameMachine$Exceptions" (27 : Nat) "FrameMachine$Bus" "fault" "I" "FrameMachine") ∈ lw_tbl := zk_1 (List.mem_of_getElem? (i := 76) rfl)
theorem kw_77 : (Jvm.Cond.fieldLinkNest "FrameMachine$Pointers" (31 : Nat) "FrameMachine$Bus" "fault" "I" "FrameMachine") ∈ lw_tbl := zk_1 (List.mem_of_getElem? (i := 77) rfl)
theorem kw_78 : (Jvm.Cond.fieldLinkNest "FrameMachine$Processor" (117 : Nat) "FrameMachine$Bus" "fault" "I" "FrameMachine") ∈ lw_tbl := zk_1 (List.mem_of_getElem? (i := 78) rfl)
theorem kw_79 : (Jvm.Cond.fieldLink "FrameMachine$Bus" (35 : Nat) "FrameMachine$Bus" "fault" "I") ∈ lw_tbl := zk_1 (List.mem_of_getElem? (i := 79) rfl)
theorem kw_80 : (Jvm.Cond.fieldLinkNest "FrameMachine$Exceptions" (50 : Nat) "FrameMachine$Bus" "faultAddress" "I" "FrameMachine") ∈ lw_tbl := zk_1 (List.mem_of_getElem? (i := 80) rfl)
theorem kw_81 : (Jvm.Cond.fieldLink "FrameMachine$Bus" (39 : Nat) "FrameMachine$Bus" "faultAddress" "I") ∈ lw_tbl := zk_1 (List.mem_of_getElem? (i := 81) rfl)
theorem kw_82 : (Jvm.Cond.fieldLinkNest "FrameMachine$Exceptions" (53 : Nat) "FrameMachine$Bus" "faultReading" "Z" "FrameMachine") ∈ lw_tbl := zk_1 (List.mem_of_getElem? (i := 82) rfl)
theorem kw_83 : (Jvm.Cond.fieldLink "FrameMachine$Bus" (42 : Nat) "FrameMachine$Bus" "faultReading" "Z") ∈ lw_tbl := zk_1 (List.mem_of_getElem? (i := 83) rfl)
theorem kw_84 : (Jvm.Cond.laysFinal "FrameMachine$Bus" "FrameMachine$Bus" "memory" "[B") ∈ lw_tbl := zk_1 (List.mem_of_getElem? (i := 84) rfl)
theorem kw_86 : (Jvm.Cond.laysFinal "FrameMachine$Bus" "FrameMachine$Bus" "devices" "LFrameMachine$Devices;") ∈ lw_tbl := zk_1 (List.mem_of_getElem? (i := 86) rfl)
theorem kw_88 : (Jvm.Cond.lays "FrameMachine$Bus" "FrameMachine$Bus" "fault" "I") ∈ lw_tbl := zk_1 (List.mem_of_getElem? (i := 88) rfl)
theorem kw_90 : (Jvm.Cond.lays "FrameMachine$Bus" "FrameMachine$Bus" "faultAddress" "I") ∈ lw_tbl := zk_1 (List.mem_of_getElem? (i := 90) rfl)
theorem kw_92 : (Jvm.Cond.lays "FrameMachine$Bus" "FrameMachine$Bus" "faultReading" "Z") ∈ lw_tbl := zk_1 (List.mem_of_getElem? (i := 92) rfl)
theorem kw_102 : (Jvm.Cond.fieldLink "FrameMachine$Registers" (9 : Nat) "FrameMachine$Registers" "data" "[I") ∈ lw_tbl := zk_1 (List.mem_of_getElem? (i := 102) rfl)
theorem kw_103 : (Jvm.Cond.fieldLinkNest "FrameMachine$Operand" (68 : Nat) "FrameMachine$Registers" "data" "[I" "FrameMachine") ∈ lw_tbl := zk_1 (List.mem_of_getElem? (i := 103) rfl)
theorem kw_104 : (Jvm.Cond.fieldLinkNest "FrameMachine$Processor" (166 : Nat) "FrameMachine$Registers" "data" "[I" "FrameMachine") ∈ lw_tbl := zk_1 (List.mem_of_getElem? (i := 104) rfl)
theorem kw_105 : (Jvm.Cond.fieldLink "FrameMachine$Registers" (15 : Nat) "FrameMachine$Registers" "address" "[I") ∈ lw_tbl := zk_1 (List.mem_of_getElem? (i := 105) rfl)
theorem kw_106 : (Jvm.Cond.fieldLinkNest "FrameMachine$Operand" (42 : Nat) "FrameMachine$Registers" "address" "[I" "FrameMachine") ∈ lw_tbl := zk_1 (List.mem_of_getElem? (i := 106) rfl)
theorem kw_107 : (Jvm.Cond.fieldLinkNest "FrameMachine$Pointers" (38 : Nat) "FrameMachine$Registers" "address" "[I" "FrameMachine") ∈ lw_tbl := zk_1 (List.mem_of_getElem? (i := 107) rfl)
theorem kw_108 : (Jvm.Cond.fieldLinkNest "FrameMachine$Processor" (179 : Nat) "FrameMachine$Registers" "address" "[I" "FrameMachine") ∈ lw_tbl := zk_1 (List.mem_of_getElem? (i := 108) rfl)
theorem kw_109 : (Jvm.Cond.fieldLinkNest "FrameMachine" (110 : Nat) "FrameMachine$Registers" "address" "[I" "FrameMachine") ∈ lw_tbl := zk_1 (List.mem_of_getElem? (i := 109) rfl)
theorem kw_110 : (Jvm.Cond.fieldLink "FrameMachine$Registers" (22 : Nat) "FrameMachine$Registers" "other" "I") ∈ lw_tbl := zk_1 (List.mem_of_getElem? (i := 110) rfl)
theorem kw_111 : (Jvm.Cond.fieldLinkNest "FrameMachine$Processor" (280 : Nat) "FrameMachine$Registers" "other" "I" "FrameMachine") ∈ lw_tbl := zk_1 (List.mem_of_getElem? (i := 111) rfl)
theorem kw_112 : (Jvm.Cond.fieldLinkNest "FrameMachine$Pointers" (19 : Nat) "FrameMachine$Registers" "pc" "I" "FrameMachine") ∈ lw_tbl := zk_1 (List.mem_of_getElem? (i := 112) rfl)
theorem kw_113 : (Jvm.Cond.fieldLinkNest "FrameMachine$Exceptions" (37 : Nat) "FrameMachine$Registers" "pc" "I" "FrameMachine") ∈ lw_tbl := zk_1 (List.mem_of_getElem? (i := 113) rfl)
theorem kw_114 : (Jvm.Cond.fieldLinkNest "FrameMachine$Operand" (48 : Nat) "FrameMachine$Registers" "pc" "I" "FrameMachine") ∈ lw_tbl := zk_1 (List.mem_of_getElem? (i := 114) rfl)
theorem kw_115 : (Jvm.Cond.fieldLink "FrameMachine$Registers" (25 : Nat) "FrameMachine$Registers" "pc" "I") ∈ lw_tbl := zk_1 (List.mem_of_getElem? (i := 115) rfl)
theorem kw_116 : (Jvm.Cond.fieldLinkNest "FrameMachine$Processor" (85 : Nat) "FrameMachine$Registers" "pc" "I" "FrameMachine") ∈ lw_tbl := zk_1 (List.mem_of_getElem? (i := 116) rfl)
theorem kw_117 : (Jvm.Cond.fieldLinkNest "FrameMachine" (114 : Nat) "FrameMachine$Registers" "pc" "I" "FrameMachine") ∈ lw_tbl := zk_1 (List.mem_of_getElem? (i := 117) rfl)
theorem kw_118 : (Jvm.Cond.fieldLink "FrameMachine$Registers" (18 : Nat) "FrameMachine$Registers" "statusWord" "I") ∈ lw_tbl := zk_1 (List.mem_of_getElem? (i := 118) rfl)
theorem kw_119 : (Jvm.Cond.fieldLinkNest "FrameMachine$Exceptions" (56 : Nat) "FrameMachine$Registers" "statusWord" "I" "FrameMachine") ∈ lw_tbl := zk_1 (List.mem_of_getElem? (i := 119) rfl)
theorem kw_120 : (Jvm.Cond.fieldLinkNest "FrameMachine" (87 : Nat) "FrameMachine$Registers" "statusWord" "I" "FrameMachine") ∈ lw_tbl := zk_1 (List.mem_of_getElem? (i := 120) rfl)
theorem kw_121 : (Jvm.Cond.fieldLinkNest "FrameMachine$Processor" (240 : Nat) "FrameMachine$Registers" "statusWord" "I" "FrameMachine") ∈ lw_tbl := zk_1 (List.mem_of_getElem? (i := 121) rfl)
theorem kw_122 : (Jvm.Cond.laysFinal "FrameMachine$Registers" "FrameMachine$Registers" "data" "[I") ∈ lw_tbl := zk_1 (List.mem_of_getElem? (i := 122) rfl)
theorem kw_124 : (Jvm.Cond.laysFinal "FrameMachine$Registers" "FrameMachine$Registers" "address" "[I") ∈ lw_tbl := zk_1 (List.mem_of_getElem? (i := 124) rfl)
theorem kw_126 : (Jvm.Cond.lays "FrameMachine$Registers" "FrameMachine$Registers" "other" "I") ∈ lw_tbl := zk_1 (List.mem_of_getElem? (i := 126) rfl)
theorem kw_128 : (Jvm.Cond.lays "FrameMachine$Registers" "FrameMachine$Registers" "pc" "I") ∈ lw_tbl := zk_1 (List.mem_of_getElem? (i := 128) rfl)
theorem kw_130 : (Jvm.Cond.lays "FrameMachine$Registers" "FrameMachine$Registers" "statusWord" "I") ∈ lw_tbl := zk_1 (List.mem_of_getElem? (i := 130) rfl)
theorem kw_139 : (Jvm.Cond.fieldLink "FrameMachine$Pointers" (9 : Nat) "FrameMachine$Pointers" "bus" "LFrameMachine$Bus;") ∈ lw_tbl := zk_1 (List.mem_of_getElem? (i := 139) rfl)
theorem kw_140 : (Jvm.Cond.fieldLink "FrameMachine$Pointers" (15 : Nat) "FrameMachine$Pointers" "registers" "LFrameMachine$Registers;") ∈ lw_tbl := zk_1 (List.mem_of_getElem? (i := 140) rfl)
theorem kw_141 : (Jvm.Cond.laysFinal "FrameMachine$Pointers" "FrameMachine$Pointers" "bus" "LFrameMachine$Bus;") ∈ lw_tbl := zk_1 (List.mem_of_getElem? (i := 141) rfl)
theorem kw_143 : (Jvm.Cond.laysFinal "FrameMachine$Pointers" "FrameMachine$Pointers" "registers" "LFrameMachine$Registers;") ∈ lw_tbl := zk_1 (List.mem_of_getElem? (i := 143) rfl)
theorem kw_152 : (Jvm.Cond.fieldLink "FrameMachine$Exceptions" (9 : Nat) "FrameMachine$Exceptions" "bus" "LFrameMachine$Bus;") ∈ lw_tbl := zk_1 (List.mem_of_getElem? (i := 152) rfl)
theorem kw_153 : (Jvm.Cond.fieldLink "FrameMachine$Exceptions" (15 : Nat) "FrameMachine$Exceptions" "registers" "LFrameMachine$Registers;") ∈ lw_tbl := zk_1 (List.mem_of_getElem? (i := 153) rfl)
theorem kw_154 : (Jvm.Cond.fieldLink "FrameMachine$Exceptions" (19 : Nat) "FrameMachine$Exceptions" "pointers" "LFrameMachine$Pointers;") ∈ lw_tbl := zk_1 (List.mem_of_getElem? (i := 154) rfl)
theorem kw_155 : (Jvm.Cond.fieldLink "FrameMachine$Exceptions" (75 : Nat) "FrameMachine$Exceptions" "latest" "I") ∈ lw_tbl := zk_1 (List.mem_of_getElem? (i := 155) rfl)
theorem kw_156 : (Jvm.Cond.fieldLinkNest "FrameMachine" (136 : Nat) "FrameMachine$Exceptions" "latest" "I" "FrameMachine") ∈ lw_tbl := zk_1 (List.mem_of_getElem? (i := 156) rfl)
theorem kw_157 : (Jvm.Cond.fieldLink "FrameMachine$Exceptions" (78 : Nat) "FrameMachine$Exceptions" "count" "I") ∈ lw_tbl := zk_1 (List.mem_of_getElem? (i := 157) rfl)
theorem kw_158 : (Jvm.Cond.fieldLinkNest "FrameMachine" (139 : Nat) "FrameMachine$Exceptions" "count" "I" "FrameMachine") ∈ lw_tbl := zk_1 (List.mem_of_getElem? (i := 158) rfl)
theorem kw_159 : (Jvm.Cond.fieldLinkNest "FrameMachine$Processor" (56 : Nat) "FrameMachine$Exceptions" "halted" "Z" "FrameMachine") ∈ lw_tbl := zk_1 (List.mem_of_getElem? (i := 159) rfl)
theorem kw_160 : (Jvm.Cond.fieldLink "FrameMachine$Exceptions" (46 : Nat) "FrameMachine$Exceptions" "halted" "Z") ∈ lw_tbl := zk_1 (List.mem_of_getElem? (i := 160) rfl)
theorem kw_161 : (Jvm.Cond.fieldLinkNest "FrameMachine" (106 : Nat) "FrameMachine$Exceptions" "halted" "Z" "FrameMachine") ∈ lw_tbl := zk_1 (List.mem_of_getElem? (i := 161) rfl)
theorem kw_162 : (Jvm.Cond.laysFinal "FrameMachine$Exceptions" "FrameMachine$Exceptions" "bus" "LFrameMachine$Bus;") ∈ lw_tbl := zk_1 (List.mem_of_getElem? (i := 162) rfl)
theorem kw_164 : (Jvm.Cond.laysFinal "FrameMachine$Exceptions" "FrameMachine$Exceptions" "registers" "LFrameMachine$Registers;") ∈ lw_tbl := zk_1 (List.mem_of_getElem? (i := 164) rfl)
theorem kw_166 : (Jvm.Cond.laysFinal "FrameMachine$Exceptions" "FrameMachine$Exceptions" "pointers" "LFrameMachine$Pointers;") ∈ lw_tbl := zk_1 (List.mem_of_getElem? (i := 166) rfl)
theorem kw_168 : (Jvm.Cond.lays "FrameMachine$Exceptions" "FrameMachine$Exceptions" "latest" "I") ∈ lw_tbl := zk_1 (List.mem_of_getElem? (i := 168) rfl)
theorem kw_170 : (Jvm.Cond.lays "FrameMachine$Exceptions" "FrameMachine$Exceptions" "count" "I") ∈ lw_tbl := zk_1 (List.mem_of_getElem? (i := 170) rfl)
theorem kw_172 : (Jvm.Cond.lays "FrameMachine$Exceptions" "FrameMachine$Exceptions" "halted" "Z") ∈ lw_tbl := zk_1 (List.mem_of_getElem? (i := 172) rfl)
theorem kw_187 : (Jvm.Cond.fieldLink "FrameMachine$Instruction" (9 : Nat) "FrameMachine$Instruction" "word" "I") ∈ lw_tbl := zk_1 (List.mem_of_getElem? (i := 187) rfl)
theorem kw_188 : (Jvm.Cond.fieldLinkNest "FrameMachine$Processor" (151 : Nat) "FrameMachine$Instruction" "word" "I" "FrameMachine") ∈ lw_tbl := zk_1 (List.mem_of_getElem? (i := 188) rfl)
theorem kw_189 : (Jvm.Cond.fieldLink "FrameMachine$Instruction" (15 : Nat) "FrameMachine$Instruction" "op" "I") ∈ lw_tbl := zk_1 (List.mem_of_getElem? (i := 189) rfl)
theorem kw_190 : (Jvm.Cond.fieldLinkNest "FrameMachine$Processor" (170 : Nat) "FrameMachine$Instruction" "op" "I" "FrameMachine") ∈ lw_tbl := zk_1 (List.mem_of_getElem? (i := 190) rfl)
theorem kw_191 : (Jvm.Cond.fieldLinkNest "FrameMachine$Operand" (38 : Nat) "FrameMachine$Instruction" "size" "I" "FrameMachine") ∈ lw_tbl := zk_1 (List.mem_of_getElem? (i := 191) rfl)
theorem kw_192 : (Jvm.Cond.fieldLink "FrameMachine$Instruction" (18 : Nat) "FrameMachine$Instruction" "size" "I") ∈ lw_tbl := zk_1 (List.mem_of_getElem? (i := 192) rfl)
theorem kw_193 : (Jvm.Cond.fieldLinkNest "FrameMachine$Processor" (160 : Nat) "FrameMachine$Instruction" "size" "I" "FrameMachine") ∈ lw_tbl := zk_1 (List.mem_of_getElem? (i := 193) rfl)
theorem kw_194 : (Jvm.Cond.fieldLink "FrameMachine$Instruction" (21 : Nat) "FrameMachine$Instruction" "\x72" "I") ∈ lw_tbl := zk_1 (List.mem_of_getElem? (i := 194) rfl)
theorem kw_195 : (Jvm.Cond.fieldLinkNest "FrameMachine$Processor" (157 : Nat) "FrameMachine$Instruction" "\x72" "I" "FrameMachine") ∈ lw_tbl := zk_1 (List.mem_of_getElem? (i := 195) rfl)
theorem kw_196 : (Jvm.Cond.fieldLink "FrameMachine$Instruction" (24 : Nat) "FrameMachine$Instruction" "m" "I") ∈ lw_tbl := zk_1 (List.mem_of_getElem? (i := 196) rfl)
theorem kw_197 : (Jvm.Cond.fieldLinkNest "FrameMachine$Processor" (234 : Nat) "FrameMachine$Instruction" "m" "I" "FrameMachine") ∈ lw_tbl := zk_1 (List.mem_of_getElem? (i := 197) rfl)
theorem kw_198 : (Jvm.Cond.fieldLinkNest "FrameMachine$Operand" (32 : Nat) "FrameMachine$Instruction" "q" "I" "FrameMachine") ∈ lw_tbl := zk_1 (List.mem_of_getElem? (i := 198) rfl)
theorem kw_199 : (Jvm.Cond.fieldLink "FrameMachine$Instruction" (27 : Nat) "FrameMachine$Instruction" "q" "I") ∈ lw_tbl := zk_1 (List.mem_of_getElem? (i := 199) rfl)
theorem kw_200 : (Jvm.Cond.fieldLinkNest "FrameMachine$Processor" (231 : Nat) "FrameMachine$Instruction" "q" "I" "FrameMachine") ∈ lw_tbl := zk_1 (List.mem_of_getElem? (i := 200) rfl)
theorem kw_201 : (Jvm.Cond.lays "FrameMachine$Instruction" "FrameMachine$Instruction" "word" "I") ∈ lw_tbl := zk_1 (List.mem_of_getElem? (i := 201) rfl)
theorem kw_203 : (Jvm.Cond.lays "FrameMachine$Instruction" "FrameMachine$Instruction" "op" "I") ∈ lw_tbl := zk_1 (List.mem_of_getElem? (i := 203) rfl)
theorem kw_205 : (Jvm.Cond.lays "FrameMachine$Instruction" "FrameMachine$Instruction" "size" "I") ∈ lw_tbl := zk_1 (List.mem_of_getElem? (i := 205) rfl)
theorem kw_207 : (Jvm.Cond.lays "FrameMachine$Instruction" "FrameMachine$Instruction" "\x72" "I") ∈ lw_tbl := zk_1 (List.mem_of_getElem? (i := 207) rfl)
theorem kw_209 : (Jvm.Cond.lays "FrameMachine$Instruction" "FrameMachine$Instruction" "m" "I") ∈ lw_tbl := zk_1 (List.mem_of_getElem? (i := 209) rfl)
theorem kw_211 : (Jvm.Cond.lays "FrameMachine$Instruction" "FrameMachine$Instruction" "q" "I") ∈ lw_tbl := zk_1 (List.mem_of_getElem? (i := 211) rfl)
theorem kw_220 : (Jvm.Cond.fieldLink "FrameMachine$Operand" (9 : Nat) "FrameMachine$Operand" "bus" "LFrameMachine$Bus;") ∈ lw_tbl := zk_1 (List.mem_of_getElem? (i := 220) rfl)
theorem kw_221 : (Jvm.Cond.fieldLink "FrameMachine$Operand" (15 : Nat) "FrameMachine$Operand" "registers" "LFrameMachine$Registers;") ∈ lw_tbl := zk_1 (List.mem_of_getElem? (i := 221) rfl)
theorem kw_222 : (Jvm.Cond.fieldLink "FrameMachine$Operand" (19 : Nat) "FrameMachine$Operand" "pointers" "LFrameMachine$Pointers;") ∈ lw_tbl := zk_1 (List.mem_of_getElem? (i := 222) rfl)
theorem kw_223 : (Jvm.Cond.fieldLink "FrameMachine$Operand" (29 : Nat) "FrameMachine$Operand" "way" "I") ∈ lw_tbl := zk_1 (List.mem_of_getElem? (i := 223) rfl)
theorem kw_224 : (Jvm.Cond.fieldLink "FrameMachine$Operand" (35 : Nat) "FrameMachine$Operand" "index" "I") ∈ lw_tbl := zk_1 (List.mem_of_getElem? (i := 224) rfl)
theorem kw_225 : (Jvm.Cond.fieldLink "FrameMachine$Operand" (41 : Nat) "FrameMachine$Operand" "size" "I") ∈ lw_tbl := zk_1 (List.mem_of_getElem? (i := 225) rfl)
theorem kw_226 : (Jvm.Cond.fieldLink "FrameMachine$Operand" (51 : Nat) "FrameMachine$Operand" "place" "I") ∈ lw_tbl := zk_1 (List.mem_of_getElem? (i := 226) rfl)
theorem kw_227 : (Jvm.Cond.fieldLinkNest "FrameMachine$Processor" (202 : Nat) "FrameMachine$Operand" "place" "I" "FrameMachine") ∈ lw_tbl := zk_1 (List.mem_of_getElem? (i := 227) rfl)
theorem kw_228 : (Jvm.Cond.fieldLink "FrameMachine$Operand" (65 : Nat) "FrameMachine$Operand" "value" "I") ∈ lw_tbl := zk_1 (List.mem_of_getElem? (i := 228) rfl)
theorem kw_229 : (Jvm.Cond.fieldLinkNest "FrameMachine$Processor" (163 : Nat) "FrameMachine$Operand" "value" "I" "FrameMachine") ∈ lw_tbl := zk_1 (List.mem_of_getElem? (i := 229) rfl)
theorem kw_230 : (Jvm.Cond.laysFinal "FrameMachine$Operand" "FrameMachine$Operand" "bus" "LFrameMachine$Bus;") ∈ lw_tbl := zk_1 (List.mem_of_getElem? (i := 230) rfl)
theorem kw_232 : (Jvm.Cond.laysFinal "FrameMachine$Operand" "FrameMachine$Operand" "registers" "LFrameMachine$Registers;") ∈ lw_tbl := zk_1 (List.mem_of_getElem? (i := 232) rfl)
theorem kw_234 : (Jvm.Cond.laysFinal "FrameMachine$Operand" "FrameMachine$Operand" "pointers" "LFrameMachine$Pointers;") ∈ lw_tbl := zk_1 (List.mem_of_getElem? (i := 234) rfl)
theorem kw_236 : (Jvm.Cond.lays "FrameMachine$Operand" "FrameMachine$Operand" "way" "I") ∈ lw_tbl := zk_1 (List.mem_of_getElem? (i := 236) rfl)
theorem kw_238 : (Jvm.Cond.lays "FrameMachine$Operand" "FrameMachine$Operand" "index" "I") ∈ lw_tbl := zk_1 (List.mem_of_getElem? (i := 238) rfl)
theorem kw_240 : (Jvm.Cond.lays "FrameMachine$Operand" "FrameMachine$Operand" "size" "I") ∈ lw_tbl := zk_2 (List.mem_of_getElem? (i := 0) rfl)
theorem kw_242 : (Jvm.Cond.lays "FrameMachine$Operand" "FrameMachine$Operand" "place" "I") ∈ lw_tbl := zk_2 (List.mem_of_getElem? (i := 2) rfl)
theorem kw_244 : (Jvm.Cond.lays "FrameMachine$Operand" "FrameMachine$Operand" "value" "I") ∈ lw_tbl := zk_2 (List.mem_of_getElem? (i := 4) rfl)
theorem kw_253 : (Jvm.Cond.fieldLink "FrameMachine$Arithmetic" (9 : Nat) "FrameMachine$Arithmetic" "registers" "LFrameMachine$Registers;") ∈ lw_tbl := zk_2 (List.mem_of_getElem? (i := 13) rfl)
theorem kw_254 : (Jvm.Cond.laysFinal "FrameMachine$Arithmetic" "FrameMachine$Arithmetic" "registers" "LFrameMachine$Registers;") ∈ lw_tbl := zk_2 (List.mem_of_getElem? (i := 14) rfl)
theorem kw_257 : (Jvm.Cond.fieldLink "FrameMachine$Processor" (18 : Nat) "FrameMachine$Processor" "bus" "LFrameMachine$Bus;") ∈ lw_tbl := zk_2 (List.mem_of_getElem? (i := 17) rfl)
theorem kw_258 : (Jvm.Cond.fieldLink "FrameMachine$Processor" (22 : Nat) "FrameMachine$Processor" "registers" "LFrameMachine$Registers;") ∈ lw_tbl := zk_2 (List.mem_of_getElem? (i := 18) rfl)
theorem kw_259 : (Jvm.Cond.fieldLink "FrameMachine$Processor" (26 : Nat) "FrameMachine$Processor" "pointers" "LFrameMachine$Pointers;") ∈ lw_tbl := zk_2 (List.mem_of_getElem? (i := 19) rfl)
theorem kw_260 : (Jvm.Cond.fieldLink "FrameMachine$Processor" (30 : Nat) "FrameMachine$Processor" "exceptions" "LFrameMachine$Exceptions;") ∈ lw_tbl := zk_2 (List.mem_of_getElem? (i := 20) rfl)
theorem kw_261 : (Jvm.Cond.fieldLink "FrameMachine$Processor" (12 : Nat) "FrameMachine$Processor" "instruction" "LFrameMachine$Instruction;") ∈ lw_tbl := zk_2 (List.mem_of_getElem? (i := 21) rfl)
theorem kw_262 : (Jvm.Cond.fieldLink "FrameMachine$Processor" (39 : Nat) "FrameMachine$Processor" "operand" "LFrameMachine$Operand;") ∈ lw_tbl := zk_2 (List.mem_of_getElem? (i := 22) rfl)
theorem kw_263 : (Jvm.Cond.fieldLink "FrameMachine$Processor" (48 : Nat) "FrameMachine$Processor" "arithmetic" "LFrameMachine$Arithmetic;") ∈ lw_tbl := zk_2 (List.mem_of_getElem? (i := 23) rfl)
theorem kw_264 : (Jvm.Cond.fieldLink "FrameMachine$Processor" (52 : Nat) "FrameMachine$Processor" "steps" "I") ∈ lw_tbl := zk_2 (List.mem_of_getElem? (i := 24) rfl)
theorem kw_265 : (Jvm.Cond.fieldLinkNest "FrameMachine" (127 : Nat) "FrameMachine$Processor" "steps" "I" "FrameMachine") ∈ lw_tbl := zk_2 (List.mem_of_getElem? (i := 25) rfl)
theorem kw_266 : (Jvm.Cond.fieldLink "FrameMachine$Processor" (82 : Nat) "FrameMachine$Processor" "stopped" "Z") ∈ lw_tbl := zk_2 (List.mem_of_getElem? (i := 26) rfl)
theorem kw_267 : (Jvm.Cond.fieldLinkNest "FrameMachine" (102 : Nat) "FrameMachine$Processor" "stopped" "Z" "FrameMachine") ∈ lw_tbl := zk_2 (List.mem_of_getElem? (i := 27) rfl)
theorem kw_268 : (Jvm.Cond.fieldLink "FrameMachine$Processor" (123 : Nat) "FrameMachine$Processor" "start" "I") ∈ lw_tbl := zk_2 (List.mem_of_getElem? (i := 28) rfl)
theorem kw_269 : (Jvm.Cond.fieldLink "FrameMachine$Processor" (120 : Nat) "FrameMachine$Processor" "pending" "I") ∈ lw_tbl := zk_2 (List.mem_of_getElem? (i := 29) rfl)
theorem kw_270 : (Jvm.Cond.laysFinal "FrameMachine$Processor" "FrameMachine$Processor" "bus" "LFrameMachine$Bus;") ∈ lw_tbl := zk_2 (List.mem_of_getElem? (i := 30) rfl)
theorem kw_272 : (Jvm.Cond.laysFinal "FrameMachine$Processor" "FrameMachine$Processor" "registers" "LFrameMachine$Registers;") ∈ lw_tbl := zk_2 (List.mem_of_getElem? (i := 32) rfl)
theorem kw_274 : (Jvm.Cond.laysFinal "FrameMachine$Processor" "FrameMachine$Processor" "pointers" "LFrameMachine$Pointers;") ∈ lw_tbl := zk_2 (List.mem_of_getElem? (i := 34) rfl)
theorem kw_276 : (Jvm.Cond.laysFinal "FrameMachine$Processor" "FrameMachine$Processor" "exceptions" "LFrameMachine$Exceptions;") ∈ lw_tbl := zk_2 (List.mem_of_getElem? (i := 36) rfl)
theorem kw_278 : (Jvm.Cond.laysFinal "FrameMachine$Processor" "FrameMachine$Processor" "instruction" "LFrameMachine$Instruction;") ∈ lw_tbl := zk_2 (List.mem_of_getElem? (i := 38) rfl)
theorem kw_280 : (Jvm.Cond.laysFinal "FrameMachine$Processor" "FrameMachine$Processor" "operand" "LFrameMachine$Operand;") ∈ lw_tbl := zk_2 (List.mem_of_getElem? (i := 40) rfl)
theorem kw_282 : (Jvm.Cond.laysFinal "FrameMachine$Processor" "FrameMachine$Processor" "arithmetic" "LFrameMachine$Arithmetic;") ∈ lw_tbl := zk_2 (List.mem_of_getElem? (i := 42) rfl)
theorem kw_284 : (Jvm.Cond.lays "FrameMachine$Processor" "FrameMachine$Processor" "steps" "I") ∈ lw_tbl := zk_2 (List.mem_of_getElem? (i := 44) rfl)
theorem kw_286 : (Jvm.Cond.lays "FrameMachine$Processor" "FrameMachine$Processor" "stopped" "Z") ∈ lw_tbl := zk_2 (List.mem_of_getElem? (i := 46) rfl)
theorem kw_288 : (Jvm.Cond.lays "FrameMachine$Processor" "FrameMachine$Processor" "start" "I") ∈ lw_tbl := zk_2 (List.mem_of_getElem? (i := 48) rfl)
theorem kw_290 : (Jvm.Cond.lays "FrameMachine$Processor" "FrameMachine$Processor" "pending" "I") ∈ lw_tbl := zk_2 (List.mem_of_getElem? (i := 50) rfl)
theorem kw_293 : (Jvm.Cond.fieldLink "FrameMachine" (12 : Nat) "FrameMachine" "devices" "LFrameMachine$Devices;") ∈ lw_tbl := zk_2 (List.mem_of_getElem? (i := 53) rfl)
theorem kw_294 : (Jvm.Cond.fieldLink "FrameMachine" (21 : Nat) "FrameMachine" "bus" "LFrameMachine$Bus;") ∈ lw_tbl := zk_2 (List.mem_of_getElem? (i := 54) rfl)
theorem kw_295 : (Jvm.Cond.fieldLink "FrameMachine" (28 : Nat) "FrameMachine" "registers" "LFrameMachine$Registers;") ∈ lw_tbl := zk_2 (List.mem_of_getElem? (i := 55) rfl)
theorem kw_296 : (Jvm.Cond.fieldLink "FrameMachine" (42 : Nat) "FrameMachine" "exceptions" "LFrameMachine$Exceptions;") ∈ lw_tbl := zk_2 (List.mem_of_getElem? (i := 56) rfl)
theorem kw_297 : (Jvm.Cond.fieldLink "FrameMachine" (51 : Nat) "FrameMachine" "processor" "LFrameMachine$Processor;") ∈ lw_tbl := zk_2 (List.mem_of_getElem? (i := 57) rfl)
theorem kw_298 : (Jvm.Cond.laysFinal "FrameMachine" "FrameMachine" "devices" "LFrameMachine$Devices;") ∈ lw_tbl := zk_2 (List.mem_of_getElem? (i := 58) rfl)
theorem kw_300 : (Jvm.Cond.laysFinal "FrameMachine" "FrameMachine" "bus" "LFrameMachine$Bus;") ∈ lw_tbl := zk_2 (List.mem_of_getElem? (i := 60) rfl)
theorem kw_302 : (Jvm.Cond.laysFinal "FrameMachine" "FrameMachine" "registers" "LFrameMachine$Registers;") ∈ lw_tbl := zk_2 (List.mem_of_getElem? (i := 62) rfl)
theorem kw_304 : (Jvm.Cond.laysFinal "FrameMachine" "FrameMachine" "exceptions" "LFrameMachine$Exceptions;") ∈ lw_tbl := zk_2 (List.mem_of_getElem? (i := 64) rfl)
theorem kw_306 : (Jvm.Cond.laysFinal "FrameMachine" "FrameMachine" "processor" "LFrameMachine$Processor;") ∈ lw_tbl := zk_2 (List.mem_of_getElem? (i := 66) rfl)
theorem kw_313 : (Jvm.Cond.methodLink "FrameMachine" (83 : Nat) ({ cls := "FrameMachine$Registers", name := "changeStatus", desc := "(I)V" } : Jvm.MethodName)) ∈ lw_tbl := zk_2 (List.mem_of_getElem? (i := 73) rfl)
theorem kw_314 : (Jvm.Cond.instanceMethod ({ cls := "FrameMachine$Registers", name := "changeStatus", desc := "(I)V" } : Jvm.MethodName)) ∈ lw_tbl := zk_2 (List.mem_of_getElem? (i := 74) rfl)
theorem kw_315 : (Jvm.Cond.selects "FrameMachine$Registers" ({ cls := "FrameMachine$Registers", name := "changeStatus", desc := "(I)V" } : Jvm.MethodName) ({ cls := "FrameMachine$Registers", name := "changeStatus", desc := "(I)V" } : Jvm.MethodName)) ∈ lw_tbl := zk_2 (List.mem_of_getElem? (i := 75) rfl)
theorem kw_316 : (Jvm.Cond.code ({ cls := "FrameMachine$Registers", name := "changeStatus", desc := "(I)V" } : Jvm.MethodName) prog_10_method_4_code (4 : Nat) (Option.none : Option Jvm.ClassFile.FieldType)) ∈ lw_tbl := zk_2 (List.mem_of_getElem? (i := 76) rfl)
theorem kw_317 : (Jvm.Cond.constant "FrameMachine$Registers" (28 : Nat) (42783 : Int32)) ∈ lw_tbl := zk_2 (List.mem_of_getElem? (i := 77) rfl)
theorem kw_322 : (Jvm.Cond.constant "FrameMachine" (109 : Nat) (-32769 : Int32)) ∈ lw_tbl := zk_2 (List.mem_of_getElem? (i := 82) rfl)
theorem kw_323 : (Jvm.Cond.methodLink "FrameMachine" (73 : Nat) ({ cls := "FrameMachine$Bus", name := "read", desc := "(II)I" } : Jvm.MethodName)) ∈ lw_tbl := zk_2 (List.mem_of_getElem? (i := 83) rfl)
theorem kw_324 : (Jvm.Cond.instanceMethod ({ cls := "FrameMachine$Bus", name := "read", desc := "(II)I" } : Jvm.MethodName)) ∈ lw_tbl := zk_2 (List.mem_of_getElem? (i := 84) rfl)
theorem kw_325 : (Jvm.Cond.selects "FrameMachine$Bus" ({ cls := "FrameMachine$Bus", name := "read", desc := "(II)I" } : Jvm.MethodName) ({ cls := "FrameMachine$Bus", name := "read", desc := "(II)I" } : Jvm.MethodName)) ∈ lw_tbl := zk_2 (List.mem_of_getElem? (i := 85) rfl)
theorem kw_326 : (Jvm.Cond.code ({ cls := "FrameMachine$Bus", name := "read", desc := "(II)I" } : Jvm.MethodName) prog_3_method_2_code (5 : Nat) (Option.some Jvm.ClassFile.FieldType.int)) ∈ lw_tbl := zk_2 (List.mem_of_getElem? (i := 86) rfl)
theorem kw_327 : (Jvm.Cond.methodLink "FrameMachine$Bus" (19 : Nat) ({ cls := "FrameMachine$Bus", name := "fails", desc := "(IIZ)Z" } : Jvm.MethodName)) ∈ lw_tbl := zk_2 (List.mem_of_getElem? (i := 87) rfl)
theorem kw_329 : (Jvm.Cond.instanceMethod ({ cls := "FrameMachine$Bus", name := "fails", desc := "(IIZ)Z" } : Jvm.MethodName)) ∈ lw_tbl := zk_2 (List.mem_of_getElem? (i := 89) rfl)
theorem kw_330 : (Jvm.Cond.code ({ cls := "FrameMachine$Bus", name := "fails", desc := "(IIZ)Z" } : Jvm.MethodName) prog_3_method_4_code (6 : Nat) (Option.some Jvm.ClassFile.FieldType.boolean)) ∈ lw_tbl := zk_2 (List.mem_of_getElem? (i := 90) rfl)
theorem kw_331 : (Jvm.Cond.constant "FrameMachine$Bus" (33 : Nat) (61440 : Int32)) ∈ lw_tbl := zk_2 (List.mem_of_getElem? (i := 91) rfl)
theorem kw_332 : (Jvm.Cond.constant "FrameMachine$Bus" (34 : Nat) (61443 : Int32)) ∈ lw_tbl := zk_2 (List.mem_of_getElem? (i := 92) rfl)
theorem kw_333 : (Jvm.Cond.methodLink "FrameMachine$Bus" (23 : Nat) ({ cls := "FrameMachine$Devices", name := "readByte", desc := "(I)I" } : Jvm.MethodName)) ∈ lw_tbl := zk_2 (List.mem_of_getElem? (i := 93) rfl)
theorem kw_334 : (Jvm.Cond.instanceMethod ({ cls := "FrameMachine$Devices", name := "readByte", desc := "(I)I" } : Jvm.MethodName)) ∈ lw_tbl := zk_2 (List.mem_of_getElem? (i := 94) rfl)
theorem kw_335 : (Jvm.Cond.selects "FrameMachine$Devices" ({ cls := "FrameMachine$Devices", name := "readByte", desc := "(I)I" } : Jvm.MethodName) ({ cls := "FrameMachine$Devices", name := "readByte", desc := "(I)I" } : Jvm.MethodName)) ∈ lw_tbl := zk_2 (List.mem_of_getElem? (i := 95) rfl)
theorem kw_336 : (Jvm.Cond.code ({ cls := "FrameMachine$Devices", name := "readByte", desc := "(I)I" } : Jvm.MethodName) prog_4_method_9_code (3 : Nat) (Option.some Jvm.ClassFile.FieldType.int)) ∈ lw_tbl := zk_2 (List.mem_of_getElem? (i := 96) rfl)
theorem kw_337 : (Jvm.Cond.methodLink "FrameMachine" (117 : Nat) ({ cls := "FrameMachine$Devices", name := "clear", desc := "()V" } : Jvm.MethodName)) ∈ lw_tbl := zk_2 (List.mem_of_getElem? (i := 97) rfl)
theorem kw_338 : (Jvm.Cond.instanceMethod ({ cls := "FrameMachine$Devices", name := "clear", desc := "()V" } : Jvm.MethodName)) ∈ lw_tbl := zk_2 (List.mem_of_getElem? (i := 98) rfl)
theorem kw_339 : (Jvm.Cond.selects "FrameMachine$Devices" ({ cls := "FrameMachine$Devices", name := "clear", desc := "()V" } : Jvm.MethodName) ({ cls := "FrameMachine$Devices", name := "clear", desc := "()V" } : Jvm.MethodName)) ∈ lw_tbl := zk_2 (List.mem_of_getElem? (i := 99) rfl)
theorem kw_340 : (Jvm.Cond.code ({ cls := "FrameMachine$Devices", name := "clear", desc := "()V" } : Jvm.MethodName) prog_4_method_2_code (1 : Nat) (Option.none : Option Jvm.ClassFile.FieldType)) ∈ lw_tbl := zk_2 (List.mem_of_getElem? (i := 100) rfl)
theorem kw_345 : (Jvm.Cond.methodLink "FrameMachine" (124 : Nat) ({ cls := "FrameMachine$Devices", name := "sentBefore", desc := "(I)I" } : Jvm.MethodName)) ∈ lw_tbl := zk_2 (List.mem_of_getElem? (i := 105) rfl)
theorem kw_346 : (Jvm.Cond.instanceMethod ({ cls := "FrameMachine$Devices", name := "sentBefore", desc := "(I)I" } : Jvm.MethodName)) ∈ lw_tbl := zk_2 (List.mem_of_getElem? (i := 106) rfl)
theorem kw_347 : (Jvm.Cond.selects "FrameMachine$Devices" ({ cls := "FrameMachine$Devices", name := "sentBefore", desc := "(I)I" } : Jvm.MethodName) ({ cls := "FrameMachine$Devices", name := "sentBefore", desc := "(I)I" } : Jvm.MethodName)) ∈ lw_tbl := zk_2 (List.mem_of_getElem? (i := 107) rfl)
theorem kw_348 : (Jvm.Cond.code ({ cls := "FrameMachine$Devices", name := "sentBefore", desc := "(I)I" } : Jvm.MethodName) prog_4_method_8_code (2 : Nat) (Option.some Jvm.ClassFile.FieldType.int)) ∈ lw_tbl := zk_2 (List.mem_of_getElem? (i := 108) rfl)
theorem kw_361 : (Jvm.Cond.methodLink "FrameMachine" (55 : Nat) ({ cls := "FrameMachine", name := "isNoWordOfMemory", desc := "(I)Z" } : Jvm.MethodName)) ∈ lw_tbl := zk_2 (List.mem_of_getElem? (i := 121) rfl)
theorem kw_362 : (Jvm.Cond.static ({ cls := "FrameMachine", name := "isNoWordOfMemory", desc := "(I)Z" } : Jvm.MethodName)) ∈ lw_tbl := zk_2 (List.mem_of_getElem? (i := 122) rfl)
theorem kw_363 : (Jvm.Cond.code ({ cls := "FrameMachine", name := "isNoWordOfMemory", desc := "(I)Z" } : Jvm.MethodName) prog_1_method_12_code (1 : Nat) (Option.some Jvm.ClassFile.FieldType.boolean)) ∈ lw_tbl := zk_2 (List.mem_of_getElem? (i := 123) rfl)
theorem kw_364 : (Jvm.Cond.constant "FrameMachine" (59 : Nat) (65535 : Int32)) ∈ lw_tbl := zk_2 (List.mem_of_getElem? (i := 124) rfl)
theorem kw_430 : (Jvm.Cond.methodLink "FrameMachine" (67 : Nat) ({ cls := "FrameMachine$Bus", name := "write", desc := "(III)V" } : Jvm.MethodName)) ∈ lw_tbl := zk_2 (List.mem_of_getElem? (i := 190) rfl)
theorem kw_431 : (Jvm.Cond.instanceMethod ({ cls := "FrameMachine$Bus", name := "write", desc := "(III)V" } : Jvm.MethodName)) ∈ lw_tbl := zk_2 (List.mem_of_getElem? (i := 191) rfl)
theorem kw_432 : (Jvm.Cond.selects "FrameMachine$Bus" ({ cls := "FrameMachine$Bus", name := "write", desc := "(III)V" } : Jvm.MethodName) ({ cls := "FrameMachine$Bus", name := "write", desc := "(III)V" } : Jvm.MethodName)) ∈ lw_tbl := zk_2 (List.mem_of_getElem? (i := 192) rfl)
theorem kw_433 : (Jvm.Cond.code ({ cls := "FrameMachine$Bus", name := "write", desc := "(III)V" } : Jvm.MethodName) prog_3_method_3_code (6 : Nat) (Option.none : Option Jvm.ClassFile.FieldType)) ∈ lw_tbl := zk_2 (List.mem_of_getElem? (i := 193) rfl)
theorem kw_434 : (Jvm.Cond.methodLink "FrameMachine$Bus" (29 : Nat) ({ cls := "FrameMachine$Devices", name := "writeByte", desc := "(II)V" } : Jvm.MethodName)) ∈ lw_tbl := zk_2 (List.mem_of_getElem? (i := 194) rfl)
theorem kw_435 : (Jvm.Cond.instanceMethod ({ cls := "FrameMachine$Devices", name := "writeByte", desc := "(II)V" } : Jvm.MethodName)) ∈ lw_tbl := zk_2 (List.mem_of_getElem? (i := 195) rfl)
theorem kw_436 : (Jvm.Cond.selects "FrameMachine$Devices" ({ cls := "FrameMachine$Devices", name := "writeByte", desc := "(II)V" } : Jvm.MethodName) ({ cls := "FrameMachine$Devices", name := "writeByte", desc := "(II)V" } : Jvm.MethodName)) ∈ lw_tbl := zk_2 (List.mem_of_getElem? (i := 196) rfl)
theorem kw_437 : (Jvm.Cond.code ({ cls := "FrameMachine$Devices", name := "writeByte", desc := "(II)V" } : Jvm.MethodName) prog_4_method_10_code (4 : Nat) (Option.none : Option Jvm.ClassFile.FieldType)) ∈ lw_tbl := zk_2 (List.mem_of_getElem? (i := 197) rfl)
theorem kw_454 : (Jvm.Cond.methodLink "FrameMachine" (79 : Nat) ({ cls := "FrameMachine$Registers", name := "change", desc := "(II)V" } : Jvm.MethodName)) ∈ lw_tbl := zk_2 (List.mem_of_getElem? (i := 214) rfl)
theorem kw_455 : (Jvm.Cond.instanceMethod ({ cls := "FrameMachine$Registers", name := "change", desc := "(II)V" } : Jvm.MethodName)) ∈ lw_tbl := zk_2 (List.mem_of_getElem? (i := 215) rfl)
theorem kw_456 : (Jvm.Cond.selects "FrameMachine$Registers" ({ cls := "FrameMachine$Registers", name := "change", desc := "(II)V" } : Jvm.MethodName) ({ cls := "FrameMachine$Registers", name := "change", desc := "(II)V" } : Jvm.MethodName)) ∈ lw_tbl := zk_2 (List.mem_of_getElem? (i := 216) rfl)
theorem kw_457 : (Jvm.Cond.code ({ cls := "FrameMachine$Registers", name := "change", desc := "(II)V" } : Jvm.MethodName) prog_10_method_2_code (3 : Nat) (Option.none : Option Jvm.ClassFile.FieldType)) ∈ lw_tbl := zk_2 (List.mem_of_getElem? (i := 217) rfl)
theorem kw_466 : (Jvm.Cond.methodLink "FrameMachine" (93 : Nat) ({ cls := "FrameMachine$Processor", name := "step", desc := "()Z" } : Jvm.MethodName)) ∈ lw_tbl := zk_2 (List.mem_of_getElem? (i := 226) rfl)
theorem kw_467 : (Jvm.Cond.instanceMethod ({ cls := "FrameMachine$Processor", name := "step", desc := "()Z" } : Jvm.MethodName)) ∈ lw_tbl := zk_2 (List.mem_of_getElem? (i := 227) rfl)
theorem kw_468 : (Jvm.Cond.selects "FrameMachine$Processor" ({ cls := "FrameMachine$Processor", name := "step", desc := "()Z" } : Jvm.MethodName) ({ cls := "FrameMachine$Processor", name := "step", desc := "()Z" } : Jvm.MethodName)) ∈ lw_tbl := zk_2 (List.mem_of_getElem? (i := 228) rfl)
theorem kw_469 : (Jvm.Cond.code ({ cls := "FrameMachine$Processor", name := "step", desc := "()Z" } : Jvm.MethodName) prog_9_method_2_code (3 : Nat) (Option.some Jvm.ClassFile.FieldType.boolean)) ∈ lw_tbl := zk_2 (List.mem_of_getElem? (i := 229) rfl)
theorem kw_470 : (Jvm.Cond.methodLink "FrameMachine$Processor" (68 : Nat) ({ cls := "FrameMachine$Devices", name := "step", desc := "()V" } : Jvm.MethodName)) ∈ lw_tbl := zk_2 (List.mem_of_getElem? (i := 230) rfl)
theorem kw_471 : (Jvm.Cond.instanceMethod ({ cls := "FrameMachine$Devices", name := "step", desc := "()V" } : Jvm.MethodName)) ∈ lw_tbl := zk_2 (List.mem_of_getElem? (i := 231) rfl)
theorem kw_472 : (Jvm.Cond.selects "FrameMachine$Devices" ({ cls := "FrameMachine$Devices", name := "step", desc := "()V" } : Jvm.MethodName) ({ cls := "FrameMachine$Devices", name := "step", desc := "()V" } : Jvm.MethodName)) ∈ lw_tbl := zk_2 (List.mem_of_getElem? (i := 232) rfl)
theorem kw_473 : (Jvm.Cond.code ({ cls := "FrameMachine$Devices", name := "step", desc := "()V" } : Jvm.MethodName) prog_4_method_3_code (1 : Nat) (Option.none : Option Jvm.ClassFile.FieldType)) ∈ lw_tbl := zk_2 (List.mem_of_getElem? (i := 233) rfl)
theorem kw_474 : (Jvm.Cond.methodLink "FrameMachine$Devices" (44 : Nat) ({ cls := "FrameMachine$Devices", name := "stepTimer", desc := "()V" } : Jvm.MethodName)) ∈ lw_tbl := zk_2 (List.mem_of_getElem? (i := 234) rfl)
theorem kw_476 : (Jvm.Cond.instanceMethod ({ cls := "FrameMachine$Devices", name := "stepTimer", desc := "()V" } : Jvm.MethodName)) ∈ lw_tbl := zk_2 (List.mem_of_getElem? (i := 236) rfl)
theorem kw_477 : (Jvm.Cond.code ({ cls := "FrameMachine$Devices", name := "stepTimer", desc := "()V" } : Jvm.MethodName) prog_4_method_4_code (1 : Nat) (Option.none : Option Jvm.ClassFile.FieldType)) ∈ lw_tbl := zk_2 (List.mem_of_getElem? (i := 237) rfl)
theorem kw_478 : (Jvm.Cond.methodLink "FrameMachine$Devices" (47 : Nat) ({ cls := "FrameMachine$Devices", name := "stepLine", desc := "()V" } : Jvm.MethodName)) ∈ lw_tbl := zk_2 (List.mem_of_getElem? (i := 238) rfl)
theorem kw_480 : (Jvm.Cond.instanceMethod ({ cls := "FrameMachine$Devices", name := "stepLine", desc := "()V" } : Jvm.MethodName)) ∈ lw_tbl := zk_3 (List.mem_of_getElem? (i := 0) rfl)
theorem kw_481 : (Jvm.Cond.code ({ cls := "FrameMachine$Devices", name := "stepLine", desc := "()V" } : Jvm.MethodName) prog_4_method_5_code (1 : Nat) (Option.none : Option Jvm.ClassFile.FieldType)) ∈ lw_tbl := zk_3 (List.mem_of_getElem? (i := 1) rfl)
theorem kw_482 : (Jvm.Cond.methodLink "FrameMachine$Processor" (73 : Nat) ({ cls := "FrameMachine$Devices", name := "level", desc := "()I" } : Jvm.MethodName)) ∈ lw_tbl := zk_3 (List.mem_of_getElem? (i := 2) rfl)
theorem kw_483 : (Jvm.Cond.instanceMethod ({ cls := "FrameMachine$Devices", name := "level", desc := "()I" } : Jvm.MethodName)) ∈ lw_tbl := zk_3 (List.mem_of_getElem? (i := 3) rfl)
theorem kw_484 : (Jvm.Cond.selects "FrameMachine$Devices" ({ cls := "FrameMachine$Devices", name := "level", desc := "()I" } : Jvm.MethodName) ({ cls := "FrameMachine$Devices", name := "level", desc := "()I" } : Jvm.MethodName)) ∈ lw_tbl := zk_3 (List.mem_of_getElem? (i := 4) rfl)
theorem kw_485 : (Jvm.Cond.code ({ cls := "FrameMachine$Devices", name := "level", desc := "()I" } : Jvm.MethodName) prog_4_method_6_code (1 : Nat) (Option.some Jvm.ClassFile.FieldType.int)) ∈ lw_tbl := zk_3 (List.mem_of_getElem? (i := 5) rfl)
theorem kw_486 : (Jvm.Cond.methodLink "FrameMachine$Processor" (77 : Nat) ({ cls := "FrameMachine$Registers", name := "levelMask", desc := "()I" } : Jvm.MethodName)) ∈ lw_tbl := zk_3 (List.mem_of_getElem? (i := 6) rfl)
theorem kw_487 : (Jvm.Cond.instanceMethod ({ cls := "FrameMachine$Registers", name := "levelMask", desc := "()I" } : Jvm.MethodName)) ∈ lw_tbl := zk_3 (List.mem_of_getElem? (i := 7) rfl)
theorem kw_488 : (Jvm.Cond.selects "FrameMachine$Registers" ({ cls := "FrameMachine$Registers", name := "levelMask", desc := "()I" } : Jvm.MethodName) ({ cls := "FrameMachine$Registers", name := "levelMask", desc := "()I" } : Jvm.MethodName)) ∈ lw_tbl := zk_3 (List.mem_of_getElem? (i := 8) rfl)
theorem kw_489 : (Jvm.Cond.code ({ cls := "FrameMachine$Registers", name := "levelMask", desc := "()I" } : Jvm.MethodName) prog_10_method_7_code (1 : Nat) (Option.some Jvm.ClassFile.FieldType.int)) ∈ lw_tbl := zk_3 (List.mem_of_getElem? (i := 9) rfl)
theorem kw_490 : (Jvm.Cond.methodLink "FrameMachine$Processor" (88 : Nat) ({ cls := "FrameMachine$Exceptions", name := "raise", desc := "(III)V" } : Jvm.MethodName)) ∈ lw_tbl := zk_3 (List.mem_of_getElem? (i := 10) rfl)
theorem kw_491 : (Jvm.Cond.instanceMethod ({ cls := "FrameMachine$Exceptions", name := "raise", desc := "(III)V" } : Jvm.MethodName)) ∈ lw_tbl := zk_3 (List.mem_of_getElem? (i := 11) rfl)
theorem kw_492 : (Jvm.Cond.selects "FrameMachine$Exceptions" ({ cls := "FrameMachine$Exceptions", name := "raise", desc := "(III)V" } : Jvm.MethodName) ({ cls := "FrameMachine$Exceptions", name := "raise", desc := "(III)V" } : Jvm.MethodName)) ∈ lw_tbl := zk_3 (List.mem_of_getElem? (i := 12) rfl)
theorem kw_493 : (Jvm.Cond.code ({ cls := "FrameMachine$Exceptions", name := "raise", desc := "(III)V" } : Jvm.MethodName) prog_5_method_2_code (4 : Nat) (Option.none : Option Jvm.ClassFile.FieldType)) ∈ lw_tbl := zk_3 (List.mem_of_getElem? (i := 13) rfl)
theorem kw_494 : (Jvm.Cond.methodLink "FrameMachine$Exceptions" (23 : Nat) ({ cls := "FrameMachine$Exceptions", name := "enter", desc := "(III)V" } : Jvm.MethodName)) ∈ lw_tbl := zk_3 (List.mem_of_getElem? (i := 14) rfl)
theorem kw_496 : (Jvm.Cond.instanceMethod ({ cls := "FrameMachine$Exceptions", name := "enter", desc := "(III)V" } : Jvm.MethodName)) ∈ lw_tbl := zk_3 (List.mem_of_getElem? (i := 16) rfl)
theorem kw_497 : (Jvm.Cond.code ({ cls := "FrameMachine$Exceptions", name := "enter", desc := "(III)V" } : Jvm.MethodName) prog_5_method_3_code (7 : Nat) (Option.none : Option Jvm.ClassFile.FieldType)) ∈ lw_tbl := zk_3 (List.mem_of_getElem? (i := 17) rfl)
theorem kw_498 : (Jvm.Cond.methodLink "FrameMachine$Exceptions" (42 : Nat) ({ cls := "FrameMachine$Exceptions", name := "note", desc := "(I)V" } : Jvm.MethodName)) ∈ lw_tbl := zk_3 (List.mem_of_getElem? (i := 18) rfl)
theorem kw_500 : (Jvm.Cond.instanceMethod ({ cls := "FrameMachine$Exceptions", name := "note", desc := "(I)V" } : Jvm.MethodName)) ∈ lw_tbl := zk_3 (List.mem_of_getElem? (i := 20) rfl)
theorem kw_501 : (Jvm.Cond.code ({ cls := "FrameMachine$Exceptions", name := "note", desc := "(I)V" } : Jvm.MethodName) prog_5_method_4_code (2 : Nat) (Option.none : Option Jvm.ClassFile.FieldType)) ∈ lw_tbl := zk_3 (List.mem_of_getElem? (i := 21) rfl)
theorem kw_502 : (Jvm.Cond.methodLink "FrameMachine$Exceptions" (59 : Nat) ({ cls := "FrameMachine$Exceptions", name := "statusIn", desc := "(II)I" } : Jvm.MethodName)) ∈ lw_tbl := zk_3 (List.mem_of_getElem? (i := 22) rfl)
theorem kw_503 : (Jvm.Cond.static ({ cls := "FrameMachine$Exceptions", name := "statusIn", desc := "(II)I" } : Jvm.MethodName)) ∈ lw_tbl := zk_3 (List.mem_of_getElem? (i := 23) rfl)
theorem kw_504 : (Jvm.Cond.code ({ cls := "FrameMachine$Exceptions", name := "statusIn", desc := "(II)I" } : Jvm.MethodName) prog_5_method_5_code (4 : Nat) (Option.some Jvm.ClassFile.FieldType.int)) ∈ lw_tbl := zk_3 (List.mem_of_getElem? (i := 24) rfl)
theorem kw_505 : (Jvm.Cond.constant "FrameMachine$Exceptions" (81 : Nat) (-32769 : Int32)) ∈ lw_tbl := zk_3 (List.mem_of_getElem? (i := 25) rfl)
theorem kw_506 : (Jvm.Cond.methodLink "FrameMachine$Exceptions" (63 : Nat) ({ cls := "FrameMachine$Registers", name := "changeStatus", desc := "(I)V" } : Jvm.MethodName)) ∈ lw_tbl := zk_3 (List.mem_of_getElem? (i := 26) rfl)
theorem kw_507 : (Jvm.Cond.methodLink "FrameMachine$Exceptions" (66 : Nat) ({ cls := "FrameMachine$Pointers", name := "push", desc := "(II)V" } : Jvm.MethodName)) ∈ lw_tbl := zk_3 (List.mem_of_getElem? (i := 27) rfl)
theorem kw_508 : (Jvm.Cond.instanceMethod ({ cls := "FrameMachine$Pointers", name := "push", desc := "(II)V" } : Jvm.MethodName)) ∈ lw_tbl := zk_3 (List.mem_of_getElem? (i := 28) rfl)
theorem kw_509 : (Jvm.Cond.selects "FrameMachine$Pointers" ({ cls := "FrameMachine$Pointers", name := "push", desc := "(II)V" } : Jvm.MethodName) ({ cls := "FrameMachine$Pointers", name := "push", desc := "(II)V" } : Jvm.MethodName)) ∈ lw_tbl := zk_3 (List.mem_of_getElem? (i := 29) rfl)
theorem kw_510 : (Jvm.Cond.code ({ cls := "FrameMachine$Pointers", name := "push", desc := "(II)V" } : Jvm.MethodName) prog_8_method_4_code (3 : Nat) (Option.none : Option Jvm.ClassFile.FieldType)) ∈ lw_tbl := zk_3 (List.mem_of_getElem? (i := 30) rfl)
theorem kw_511 : (Jvm.Cond.methodLink "FrameMachine$Pointers" (42 : Nat) ({ cls := "FrameMachine$Bus", name := "write", desc := "(III)V" } : Jvm.MethodName)) ∈ lw_tbl := zk_3 (List.mem_of_getElem? (i := 31) rfl)
theorem kw_512 : (Jvm.Cond.methodLink "FrameMachine$Exceptions" (33 : Nat) ({ cls := "FrameMachine$Exceptions", name := "isOfAccess", desc := "(I)Z" } : Jvm.MethodName)) ∈ lw_tbl := zk_3 (List.mem_of_getElem? (i := 32) rfl)
theorem kw_513 : (Jvm.Cond.static ({ cls := "FrameMachine$Exceptions", name := "isOfAccess", desc := "(I)Z" } : Jvm.MethodName)) ∈ lw_tbl := zk_3 (List.mem_of_getElem? (i := 33) rfl)
theorem kw_514 : (Jvm.Cond.code ({ cls := "FrameMachine$Exceptions", name := "isOfAccess", desc := "(I)Z" } : Jvm.MethodName) prog_5_method_6_code (1 : Nat) (Option.some Jvm.ClassFile.FieldType.boolean)) ∈ lw_tbl := zk_3 (List.mem_of_getElem? (i := 34) rfl)
theorem kw_515 : (Jvm.Cond.methodLink "FrameMachine$Exceptions" (72 : Nat) ({ cls := "FrameMachine$Bus", name := "read", desc := "(II)I" } : Jvm.MethodName)) ∈ lw_tbl := zk_3 (List.mem_of_getElem? (i := 35) rfl)
theorem kw_516 : (Jvm.Cond.constant "FrameMachine$Processor" (92 : Nat) (32768 : Int32)) ∈ lw_tbl := zk_3 (List.mem_of_getElem? (i := 36) rfl)
theorem kw_517 : (Jvm.Cond.methodLink "FrameMachine$Processor" (93 : Nat) ({ cls := "FrameMachine$Registers", name := "has", desc := "(I)Z" } : Jvm.MethodName)) ∈ lw_tbl := zk_3 (List.mem_of_getElem? (i := 37) rfl)
theorem kw_518 : (Jvm.Cond.instanceMethod ({ cls := "FrameMachine$Registers", name := "has", desc := "(I)Z" } : Jvm.MethodName)) ∈ lw_tbl := zk_3 (List.mem_of_getElem? (i := 38) rfl)
theorem kw_519 : (Jvm.Cond.selects "FrameMachine$Registers" ({ cls := "FrameMachine$Registers", name := "has", desc := "(I)Z" } : Jvm.MethodName) ({ cls := "FrameMachine$Registers", name := "has", desc := "(I)Z" } : Jvm.MethodName)) ∈ lw_tbl := zk_3 (List.mem_of_getElem? (i := 39) rfl)
theorem kw_520 : (Jvm.Cond.code ({ cls := "FrameMachine$Registers", name := "has", desc := "(I)Z" } : Jvm.MethodName) prog_10_method_5_code (2 : Nat) (Option.some Jvm.ClassFile.FieldType.boolean)) ∈ lw_tbl := zk_3 (List.mem_of_getElem? (i := 40) rfl)
theorem kw_521 : (Jvm.Cond.methodLink "FrameMachine$Processor" (97 : Nat) ({ cls := "FrameMachine$Processor", name := "begin", desc := "()V" } : Jvm.MethodName)) ∈ lw_tbl := zk_3 (List.mem_of_getElem? (i := 41) rfl)
theorem kw_523 : (Jvm.Cond.instanceMethod ({ cls := "FrameMachine$Processor", name := "begin", desc := "()V" } : Jvm.MethodName)) ∈ lw_tbl := zk_3 (List.mem_of_getElem? (i := 43) rfl)
theorem kw_524 : (Jvm.Cond.code ({ cls := "FrameMachine$Processor", name := "begin", desc := "()V" } : Jvm.MethodName) prog_9_method_4_code (1 : Nat) (Option.none : Option Jvm.ClassFile.FieldType)) ∈ lw_tbl := zk_3 (List.mem_of_getElem? (i := 44) rfl)
theorem kw_525 : (Jvm.Cond.methodLink "FrameMachine$Processor" (126 : Nat) ({ cls := "FrameMachine$Pointers", name := "nextWord", desc := "()I" } : Jvm.MethodName)) ∈ lw_tbl := zk_3 (List.mem_of_getElem? (i := 45) rfl)
theorem kw_526 : (Jvm.Cond.instanceMethod ({ cls := "FrameMachine$Pointers", name := "nextWord", desc := "()I" } : Jvm.MethodName)) ∈ lw_tbl := zk_3 (List.mem_of_getElem? (i := 46) rfl)
theorem kw_527 : (Jvm.Cond.selects "FrameMachine$Pointers" ({ cls := "FrameMachine$Pointers", name := "nextWord", desc := "()I" } : Jvm.MethodName) ({ cls := "FrameMachine$Pointers", name := "nextWord", desc := "()I" } : Jvm.MethodName)) ∈ lw_tbl := zk_3 (List.mem_of_getElem? (i := 47) rfl)
theorem kw_528 : (Jvm.Cond.code ({ cls := "FrameMachine$Pointers", name := "nextWord", desc := "()I" } : Jvm.MethodName) prog_8_method_2_code (2 : Nat) (Option.some Jvm.ClassFile.FieldType.int)) ∈ lw_tbl := zk_3 (List.mem_of_getElem? (i := 48) rfl)
theorem kw_529 : (Jvm.Cond.methodLink "FrameMachine$Pointers" (25 : Nat) ({ cls := "FrameMachine$Bus", name := "read", desc := "(II)I" } : Jvm.MethodName)) ∈ lw_tbl := zk_3 (List.mem_of_getElem? (i := 49) rfl)
theorem kw_530 : (Jvm.Cond.methodLink "FrameMachine$Processor" (131 : Nat) ({ cls := "FrameMachine$Instruction", name := "decode", desc := "(I)V" } : Jvm.MethodName)) ∈ lw_tbl := zk_3 (List.mem_of_getElem? (i := 50) rfl)
theorem kw_531 : (Jvm.Cond.instanceMethod ({ cls := "FrameMachine$Instruction", name := "decode", desc := "(I)V" } : Jvm.MethodName)) ∈ lw_tbl := zk_3 (List.mem_of_getElem? (i := 51) rfl)
theorem kw_532 : (Jvm.Cond.selects "FrameMachine$Instruction" ({ cls := "FrameMachine$Instruction", name := "decode", desc := "(I)V" } : Jvm.MethodName) ({ cls := "FrameMachine$Instruction", name := "decode", desc := "(I)V" } : Jvm.MethodName)) ∈ lw_tbl := zk_3 (List.mem_of_getElem? (i := 52) rfl)
theorem kw_533 : (Jvm.Cond.code ({ cls := "FrameMachine$Instruction", name := "decode", desc := "(I)V" } : Jvm.MethodName) prog_6_method_2_code (2 : Nat) (Option.none : Option Jvm.ClassFile.FieldType)) ∈ lw_tbl := zk_3 (List.mem_of_getElem? (i := 53) rfl)
theorem kw_534 : (Jvm.Cond.methodLink "FrameMachine$Processor" (135 : Nat) ({ cls := "FrameMachine$Instruction", name := "isNone", desc := "()Z" } : Jvm.MethodName)) ∈ lw_tbl := zk_3 (List.mem_of_getElem? (i := 54) rfl)
theorem kw_535 : (Jvm.Cond.instanceMethod ({ cls := "FrameMachine$Instruction", name := "isNone", desc := "()Z" } : Jvm.MethodName)) ∈ lw_tbl := zk_3 (List.mem_of_getElem? (i := 55) rfl)
theorem kw_536 : (Jvm.Cond.selects "FrameMachine$Instruction" ({ cls := "FrameMachine$Instruction", name := "isNone", desc := "()Z" } : Jvm.MethodName) ({ cls := "FrameMachine$Instruction", name := "isNone", desc := "()Z" } : Jvm.MethodName)) ∈ lw_tbl := zk_3 (List.mem_of_getElem? (i := 56) rfl)
theorem kw_537 : (Jvm.Cond.code ({ cls := "FrameMachine$Instruction", name := "isNone", desc := "()Z" } : Jvm.MethodName) prog_6_method_7_code (1 : Nat) (Option.some Jvm.ClassFile.FieldType.boolean)) ∈ lw_tbl := zk_3 (List.mem_of_getElem? (i := 57) rfl)
theorem kw_538 : (Jvm.Cond.fieldLink "FrameMachine$Instruction" (38 : Nat) "FrameMachine$Instruction" "SIZES" "[I") ∈ lw_tbl := zk_3 (List.mem_of_getElem? (i := 58) rfl)
theorem kw_540 : (Jvm.Cond.methodLink "FrameMachine$Instruction" (41 : Nat) ({ cls := "FrameMachine$Instruction", name := "condition", desc := "()I" } : Jvm.MethodName)) ∈ lw_tbl := zk_3 (List.mem_of_getElem? (i := 60) rfl)
theorem kw_541 : (Jvm.Cond.instanceMethod ({ cls := "FrameMachine$Instruction", name := "condition", desc := "()I" } : Jvm.MethodName)) ∈ lw_tbl := zk_3 (List.mem_of_getElem? (i := 61) rfl)
theorem kw_542 : (Jvm.Cond.selects "FrameMachine$Instruction" ({ cls := "FrameMachine$Instruction", name := "condition", desc := "()I" } : Jvm.MethodName) ({ cls := "FrameMachine$Instruction", name := "condition", desc := "()I" } : Jvm.MethodName)) ∈ lw_tbl := zk_3 (List.mem_of_getElem? (i := 62) rfl)
theorem kw_543 : (Jvm.Cond.code ({ cls := "FrameMachine$Instruction", name := "condition", desc := "()I" } : Jvm.MethodName) prog_6_method_4_code (1 : Nat) (Option.some Jvm.ClassFile.FieldType.int)) ∈ lw_tbl := zk_3 (List.mem_of_getElem? (i := 63) rfl)
theorem kw_544 : (Jvm.Cond.methodLink "FrameMachine$Instruction" (34 : Nat) ({ cls := "FrameMachine$Instruction", name := "hasOperand", desc := "()Z" } : Jvm.MethodName)) ∈ lw_tbl := zk_3 (List.mem_of_getElem? (i := 64) rfl)
theorem kw_545 : (Jvm.Cond.instanceMethod ({ cls := "FrameMachine$Instruction", name := "hasOperand", desc := "()Z" } : Jvm.MethodName)) ∈ lw_tbl := zk_3 (List.mem_of_getElem? (i := 65) rfl)
theorem kw_546 : (Jvm.Cond.selects "FrameMachine$Instruction" ({ cls := "FrameMachine$Instruction", name := "hasOperand", desc := "()Z" } : Jvm.MethodName) ({ cls := "FrameMachine$Instruction", name := "hasOperand", desc := "()Z" } : Jvm.MethodName)) ∈ lw_tbl := zk_3 (List.mem_of_getElem? (i := 66) rfl)
theorem kw_547 : (Jvm.Cond.code ({ cls := "FrameMachine$Instruction", name := "hasOperand", desc := "()Z" } : Jvm.MethodName) prog_6_method_5_code (1 : Nat) (Option.some Jvm.ClassFile.FieldType.boolean)) ∈ lw_tbl := zk_3 (List.mem_of_getElem? (i := 67) rfl)
theorem kw_548 : (Jvm.Cond.fieldLink "FrameMachine$Instruction" (30 : Nat) "FrameMachine$Instruction" "KINDS" "[I") ∈ lw_tbl := zk_3 (List.mem_of_getElem? (i := 68) rfl)
theorem kw_550 : (Jvm.Cond.methodLink "FrameMachine$Instruction" (45 : Nat) ({ cls := "FrameMachine$Instruction", name := "kind", desc := "()I" } : Jvm.MethodName)) ∈ lw_tbl := zk_3 (List.mem_of_getElem? (i := 70) rfl)
theorem kw_552 : (Jvm.Cond.instanceMethod ({ cls := "FrameMachine$Instruction", name := "kind", desc := "()I" } : Jvm.MethodName)) ∈ lw_tbl := zk_3 (List.mem_of_getElem? (i := 72) rfl)
theorem kw_553 : (Jvm.Cond.code ({ cls := "FrameMachine$Instruction", name := "kind", desc := "()I" } : Jvm.MethodName) prog_6_method_8_code (2 : Nat) (Option.some Jvm.ClassFile.FieldType.int)) ∈ lw_tbl := zk_3 (List.mem_of_getElem? (i := 73) rfl)
theorem kw_554 : (Jvm.Cond.methodLink "FrameMachine$Instruction" (48 : Nat) ({ cls := "FrameMachine$Instruction", name := "way", desc := "()I" } : Jvm.MethodName)) ∈ lw_tbl := zk_3 (List.mem_of_getElem? (i := 74) rfl)
theorem kw_555 : (Jvm.Cond.instanceMethod ({ cls := "FrameMachine$Instruction", name := "way", desc := "()I" } : Jvm.MethodName)) ∈ lw_tbl := zk_3 (List.mem_of_getElem? (i := 75) rfl)
theorem kw_556 : (Jvm.Cond.selects "FrameMachine$Instruction" ({ cls := "FrameMachine$Instruction", name := "way", desc := "()I" } : Jvm.MethodName) ({ cls := "FrameMachine$Instruction", name := "way", desc := "()I" } : Jvm.MethodName)) ∈ lw_tbl := zk_3 (List.mem_of_getElem? (i := 76) rfl)
theorem kw_557 : (Jvm.Cond.code ({ cls := "FrameMachine$Instruction", name := "way", desc := "()I" } : Jvm.MethodName) prog_6_method_3_code (1 : Nat) (Option.some Jvm.ClassFile.FieldType.int)) ∈ lw_tbl := zk_3 (List.mem_of_getElem? (i := 77) rfl)
theorem kw_558 : (Jvm.Cond.methodLink "FrameMachine$Processor" (138 : Nat) ({ cls := "FrameMachine$Instruction", name := "needsSupervisor", desc := "()Z" } : Jvm.MethodName)) ∈ lw_tbl := zk_3 (List.mem_of_getElem? (i := 78) rfl)
theorem kw_559 : (Jvm.Cond.instanceMethod ({ cls := "FrameMachine$Instruction", name := "needsSupervisor", desc := "()Z" } : Jvm.MethodName)) ∈ lw_tbl := zk_3 (List.mem_of_getElem? (i := 79) rfl)
theorem kw_560 : (Jvm.Cond.selects "FrameMachine$Instruction" ({ cls := "FrameMachine$Instruction", name := "needsSupervisor", desc := "()Z" } : Jvm.MethodName) ({ cls := "FrameMachine$Instruction", name := "needsSupervisor", desc := "()Z" } : Jvm.MethodName)) ∈ lw_tbl := zk_3 (List.mem_of_getElem? (i := 80) rfl)
theorem kw_561 : (Jvm.Cond.code ({ cls := "FrameMachine$Instruction", name := "needsSupervisor", desc := "()Z" } : Jvm.MethodName) prog_6_method_9_code (1 : Nat) (Option.some Jvm.ClassFile.FieldType.boolean)) ∈ lw_tbl := zk_3 (List.mem_of_getElem? (i := 81) rfl)
theorem kw_562 : (Jvm.Cond.methodLink "FrameMachine$Processor" (100 : Nat) ({ cls := "FrameMachine$Processor", name := "goesOn", desc := "()Z" } : Jvm.MethodName)) ∈ lw_tbl := zk_3 (List.mem_of_getElem? (i := 82) rfl)
theorem kw_564 : (Jvm.Cond.instanceMethod ({ cls := "FrameMachine$Processor", name := "goesOn", desc := "()Z" } : Jvm.MethodName)) ∈ lw_tbl := zk_3 (List.mem_of_getElem? (i := 84) rfl)
theorem kw_565 : (Jvm.Cond.code ({ cls := "FrameMachine$Processor", name := "goesOn", desc := "()Z" } : Jvm.MethodName) prog_9_method_3_code (1 : Nat) (Option.some Jvm.ClassFile.FieldType.boolean)) ∈ lw_tbl := zk_3 (List.mem_of_getElem? (i := 85) rfl)
theorem kw_566 : (Jvm.Cond.methodLink "FrameMachine$Processor" (104 : Nat) ({ cls := "FrameMachine$Instruction", name := "hasOperand", desc := "()Z" } : Jvm.MethodName)) ∈ lw_tbl := zk_3 (List.mem_of_getElem? (i := 86) rfl)
theorem kw_567 : (Jvm.Cond.methodLink "FrameMachine$Processor" (107 : Nat) ({ cls := "FrameMachine$Processor", name := "takeOperand", desc := "()V" } : Jvm.MethodName)) ∈ lw_tbl := zk_3 (List.mem_of_getElem? (i := 87) rfl)
theorem kw_569 : (Jvm.Cond.instanceMethod ({ cls := "FrameMachine$Processor", name := "takeOperand", desc := "()V" } : Jvm.MethodName)) ∈ lw_tbl := zk_3 (List.mem_of_getElem? (i := 89) rfl)
theorem kw_570 : (Jvm.Cond.code ({ cls := "FrameMachine$Processor", name := "takeOperand", desc := "()V" } : Jvm.MethodName) prog_9_method_5_code (1 : Nat) (Option.none : Option Jvm.ClassFile.FieldType)) ∈ lw_tbl := zk_3 (List.mem_of_getElem? (i := 90) rfl)
theorem kw_571 : (Jvm.Cond.methodLink "FrameMachine$Processor" (141 : Nat) ({ cls := "FrameMachine$Operand", name := "locate", desc := "(LFrameMachine$Instruction;)V" } : Jvm.MethodName)) ∈ lw_tbl := zk_3 (List.mem_of_getElem? (i := 91) rfl)
theorem kw_572 : (Jvm.Cond.instanceMethod ({ cls := "FrameMachine$Operand", name := "locate", desc := "(LFrameMachine$Instruction;)V" } : Jvm.MethodName)) ∈ lw_tbl := zk_3 (List.mem_of_getElem? (i := 92) rfl)
theorem kw_573 : (Jvm.Cond.selects "FrameMachine$Operand" ({ cls := "FrameMachine$Operand", name := "locate", desc := "(LFrameMachine$Instruction;)V" } : Jvm.MethodName) ({ cls := "FrameMachine$Operand", name := "locate", desc := "(LFrameMachine$Instruction;)V" } : Jvm.MethodName)) ∈ lw_tbl := zk_3 (List.mem_of_getElem? (i := 93) rfl)
theorem kw_574 : (Jvm.Cond.code ({ cls := "FrameMachine$Operand", name := "locate", desc := "(LFrameMachine$Instruction;)V" } : Jvm.MethodName) prog_7_method_2_code (4 : Nat) (Option.none : Option Jvm.ClassFile.FieldType)) ∈ lw_tbl := zk_3 (List.mem_of_getElem? (i := 94) rfl)
theorem kw_575 : (Jvm.Cond.methodLink "FrameMachine$Operand" (23 : Nat) ({ cls := "FrameMachine$Instruction", name := "way", desc := "()I" } : Jvm.MethodName)) ∈ lw_tbl := zk_3 (List.mem_of_getElem? (i := 95) rfl)
theorem kw_576 : (Jvm.Cond.methodLink "FrameMachine$Operand" (54 : Nat) ({ cls := "FrameMachine$Operand", name := "stride", desc := "()I" } : Jvm.MethodName)) ∈ lw_tbl := zk_3 (List.mem_of_getElem? (i := 96) rfl)
theorem kw_578 : (Jvm.Cond.instanceMethod ({ cls := "FrameMachine$Operand", name := "stride", desc := "()I" } : Jvm.MethodName)) ∈ lw_tbl := zk_3 (List.mem_of_getElem? (i := 98) rfl)
theorem kw_579 : (Jvm.Cond.code ({ cls := "FrameMachine$Operand", name := "stride", desc := "()I" } : Jvm.MethodName) prog_7_method_3_code (1 : Nat) (Option.some Jvm.ClassFile.FieldType.int)) ∈ lw_tbl := zk_3 (List.mem_of_getElem? (i := 99) rfl)
theorem kw_580 : (Jvm.Cond.methodLink "FrameMachine$Operand" (57 : Nat) ({ cls := "FrameMachine$Pointers", name := "nextWord", desc := "()I" } : Jvm.MethodName)) ∈ lw_tbl := zk_3 (List.mem_of_getElem? (i := 100) rfl)
theorem kw_581 : (Jvm.Cond.methodLink "FrameMachine$Operand" (62 : Nat) ({ cls := "FrameMachine$Pointers", name := "nextLong", desc := "()I" } : Jvm.MethodName)) ∈ lw_tbl := zk_3 (List.mem_of_getElem? (i := 101) rfl)
theorem kw_582 : (Jvm.Cond.instanceMethod ({ cls := "FrameMachine$Pointers", name := "nextLong", desc := "()I" } : Jvm.MethodName)) ∈ lw_tbl := zk_3 (List.mem_of_getElem? (i := 102) rfl)
theorem kw_583 : (Jvm.Cond.selects "FrameMachine$Pointers" ({ cls := "FrameMachine$Pointers", name := "nextLong", desc := "()I" } : Jvm.MethodName) ({ cls := "FrameMachine$Pointers", name := "nextLong", desc := "()I" } : Jvm.MethodName)) ∈ lw_tbl := zk_3 (List.mem_of_getElem? (i := 103) rfl)
theorem kw_584 : (Jvm.Cond.code ({ cls := "FrameMachine$Pointers", name := "nextLong", desc := "()I" } : Jvm.MethodName) prog_8_method_3_code (2 : Nat) (Option.some Jvm.ClassFile.FieldType.int)) ∈ lw_tbl := zk_3 (List.mem_of_getElem? (i := 104) rfl)
theorem kw_585 : (Jvm.Cond.methodLink "FrameMachine$Pointers" (34 : Nat) ({ cls := "FrameMachine$Pointers", name := "nextWord", desc := "()I" } : Jvm.MethodName)) ∈ lw_tbl := zk_3 (List.mem_of_getElem? (i := 105) rfl)
theorem kw_586 : (Jvm.Cond.methodLink "FrameMachine$Processor" (145 : Nat) ({ cls := "FrameMachine$Instruction", name := "readsOperand", desc := "()Z" } : Jvm.MethodName)) ∈ lw_tbl := zk_3 (List.mem_of_getElem? (i := 106) rfl)
theorem kw_587 : (Jvm.Cond.instanceMethod ({ cls := "FrameMachine$Instruction", name := "readsOperand", desc := "()Z" } : Jvm.MethodName)) ∈ lw_tbl := zk_3 (List.mem_of_getElem? (i := 107) rfl)
theorem kw_588 : (Jvm.Cond.selects "FrameMachine$Instruction" ({ cls := "FrameMachine$Instruction", name := "readsOperand", desc := "()Z" } : Jvm.MethodName) ({ cls := "FrameMachine$Instruction", name := "readsOperand", desc := "()Z" } : Jvm.MethodName)) ∈ lw_tbl := zk_3 (List.mem_of_getElem? (i := 108) rfl)
theorem kw_589 : (Jvm.Cond.code ({ cls := "FrameMachine$Instruction", name := "readsOperand", desc := "()Z" } : Jvm.MethodName) prog_6_method_6_code (2 : Nat) (Option.some Jvm.ClassFile.FieldType.boolean)) ∈ lw_tbl := zk_3 (List.mem_of_getElem? (i := 109) rfl)
theorem kw_590 : (Jvm.Cond.methodLink "FrameMachine$Processor" (148 : Nat) ({ cls := "FrameMachine$Operand", name := "load", desc := "()V" } : Jvm.MethodName)) ∈ lw_tbl := zk_3 (List.mem_of_getElem? (i := 110) rfl)
theorem kw_591 : (Jvm.Cond.instanceMethod ({ cls := "FrameMachine$Operand", name := "load", desc := "()V" } : Jvm.MethodName)) ∈ lw_tbl := zk_3 (List.mem_of_getElem? (i := 111) rfl)
theorem kw_592 : (Jvm.Cond.selects "FrameMachine$Operand" ({ cls := "FrameMachine$Operand", name := "load", desc := "()V" } : Jvm.MethodName) ({ cls := "FrameMachine$Operand", name := "load", desc := "()V" } : Jvm.MethodName)) ∈ lw_tbl := zk_3 (List.mem_of_getElem? (i := 112) rfl)
theorem kw_593 : (Jvm.Cond.code ({ cls := "FrameMachine$Operand", name := "load", desc := "()V" } : Jvm.MethodName) prog_7_method_4_code (1 : Nat) (Option.none : Option Jvm.ClassFile.FieldType)) ∈ lw_tbl := zk_3 (List.mem_of_getElem? (i := 113) rfl)
theorem kw_594 : (Jvm.Cond.methodLink "FrameMachine$Operand" (71 : Nat) ({ cls := "FrameMachine$Bus", name := "read", desc := "(II)I" } : Jvm.MethodName)) ∈ lw_tbl := zk_3 (List.mem_of_getElem? (i := 114) rfl)
theorem kw_595 : (Jvm.Cond.methodLinkNest "FrameMachine$Operand" (77 : Nat) ({ cls := "FrameMachine", name := "maskOf", desc := "(I)I" } : Jvm.MethodName) "FrameMachine") ∈ lw_tbl := zk_3 (List.mem_of_getElem? (i := 115) rfl)
theorem kw_596 : (Jvm.Cond.static ({ cls := "FrameMachine", name := "maskOf", desc := "(I)I" } : Jvm.MethodName)) ∈ lw_tbl := zk_3 (List.mem_of_getElem? (i := 116) rfl)
theorem kw_597 : (Jvm.Cond.code ({ cls := "FrameMachine", name := "maskOf", desc := "(I)I" } : Jvm.MethodName) prog_1_method_13_code (1 : Nat) (Option.some Jvm.ClassFile.FieldType.int)) ∈ lw_tbl := zk_3 (List.mem_of_getElem? (i := 117) rfl)
theorem kw_598 : (Jvm.Cond.methodLink "FrameMachine$Processor" (110 : Nat) ({ cls := "FrameMachine$Processor", name := "execute", desc := "()V" } : Jvm.MethodName)) ∈ lw_tbl := zk_3 (List.mem_of_getElem? (i := 118) rfl)
theorem kw_600 : (Jvm.Cond.instanceMethod ({ cls := "FrameMachine$Processor", name := "execute", desc := "()V" } : Jvm.MethodName)) ∈ lw_tbl := zk_3 (List.mem_of_getElem? (i := 120) rfl)
theorem kw_601 : (Jvm.Cond.code ({ cls := "FrameMachine$Processor", name := "execute", desc := "()V" } : Jvm.MethodName) prog_9_method_7_code (5 : Nat) (Option.none : Option Jvm.ClassFile.FieldType)) ∈ lw_tbl := zk_3 (List.mem_of_getElem? (i := 121) rfl)
theorem kw_602 : (Jvm.Cond.methodLink "FrameMachine$Processor" (173 : Nat) ({ cls := "FrameMachine$Processor", name := "putMarked", desc := "(I)V" } : Jvm.MethodName)) ∈ lw_tbl := zk_3 (List.mem_of_getElem? (i := 122) rfl)
theorem kw_604 : (Jvm.Cond.instanceMethod ({ cls := "FrameMachine$Processor", name := "putMarked", desc := "(I)V" } : Jvm.MethodName)) ∈ lw_tbl := zk_3 (List.mem_of_getElem? (i := 124) rfl)
theorem kw_605 : (Jvm.Cond.code ({ cls := "FrameMachine$Processor", name := "putMarked", desc := "(I)V" } : Jvm.MethodName) prog_9_method_9_code (2 : Nat) (Option.none : Option Jvm.ClassFile.FieldType)) ∈ lw_tbl := zk_3 (List.mem_of_getElem? (i := 125) rfl)
theorem kw_606 : (Jvm.Cond.methodLink "FrameMachine$Processor" (190 : Nat) ({ cls := "FrameMachine$Processor", name := "put", desc := "(I)V" } : Jvm.MethodName)) ∈ lw_tbl := zk_3 (List.mem_of_getElem? (i := 126) rfl)
theorem kw_608 : (Jvm.Cond.instanceMethod ({ cls := "FrameMachine$Processor", name := "put", desc := "(I)V" } : Jvm.MethodName)) ∈ lw_tbl := zk_3 (List.mem_of_getElem? (i := 128) rfl)
theorem kw_609 : (Jvm.Cond.code ({ cls := "FrameMachine$Processor", name := "put", desc := "(I)V" } : Jvm.MethodName) prog_9_method_8_code (2 : Nat) (Option.none : Option Jvm.ClassFile.FieldType)) ∈ lw_tbl := zk_3 (List.mem_of_getElem? (i := 129) rfl)
theorem kw_610 : (Jvm.Cond.methodLink "FrameMachine$Processor" (249 : Nat) ({ cls := "FrameMachine$Registers", name := "putData", desc := "(III)V" } : Jvm.MethodName)) ∈ lw_tbl := zk_3 (List.mem_of_getElem? (i := 130) rfl)
theorem kw_611 : (Jvm.Cond.instanceMethod ({ cls := "FrameMachine$Registers", name := "putData", desc := "(III)V" } : Jvm.MethodName)) ∈ lw_tbl := zk_3 (List.mem_of_getElem? (i := 131) rfl)
theorem kw_612 : (Jvm.Cond.selects "FrameMachine$Registers" ({ cls := "FrameMachine$Registers", name := "putData", desc := "(III)V" } : Jvm.MethodName) ({ cls := "FrameMachine$Registers", name := "putData", desc := "(III)V" } : Jvm.MethodName)) ∈ lw_tbl := zk_3 (List.mem_of_getElem? (i := 132) rfl)
theorem kw_613 : (Jvm.Cond.code ({ cls := "FrameMachine$Registers", name := "putData", desc := "(III)V" } : Jvm.MethodName) prog_10_method_8_code (5 : Nat) (Option.none : Option Jvm.ClassFile.FieldType)) ∈ lw_tbl := zk_3 (List.mem_of_getElem? (i := 133) rfl)
theorem kw_614 : (Jvm.Cond.methodLinkNest "FrameMachine$Registers" (29 : Nat) ({ cls := "FrameMachine", name := "maskOf", desc := "(I)I" } : Jvm.MethodName) "FrameMachine") ∈ lw_tbl := zk_3 (List.mem_of_getElem? (i := 134) rfl)
theorem kw_615 : (Jvm.Cond.methodLink "FrameMachine$Processor" (205 : Nat) ({ cls := "FrameMachine$Arithmetic", name := "markResult", desc := "(II)V" } : Jvm.MethodName)) ∈ lw_tbl := zk_3 (List.mem_of_getElem? (i := 135) rfl)
theorem kw_616 : (Jvm.Cond.instanceMethod ({ cls := "FrameMachine$Arithmetic", name := "markResult", desc := "(II)V" } : Jvm.MethodName)) ∈ lw_tbl := zk_3 (List.mem_of_getElem? (i := 136) rfl)
theorem kw_617 : (Jvm.Cond.selects "FrameMachine$Arithmetic" ({ cls := "FrameMachine$Arithmetic", name := "markResult", desc := "(II)V" } : Jvm.MethodName) ({ cls := "FrameMachine$Arithmetic", name := "markResult", desc := "(II)V" } : Jvm.MethodName)) ∈ lw_tbl := zk_3 (List.mem_of_getElem? (i := 137) rfl)
theorem kw_618 : (Jvm.Cond.code ({ cls := "FrameMachine$Arithmetic", name := "markResult", desc := "(II)V" } : Jvm.MethodName) prog_2_method_2_code (3 : Nat) (Option.none : Option Jvm.ClassFile.FieldType)) ∈ lw_tbl := zk_3 (List.mem_of_getElem? (i := 138) rfl)
theorem kw_619 : (Jvm.Cond.methodLink "FrameMachine$Arithmetic" (15 : Nat) ({ cls := "FrameMachine$Arithmetic", name := "markSign", desc := "(II)V" } : Jvm.MethodName)) ∈ lw_tbl := zk_3 (List.mem_of_getElem? (i := 139) rfl)
theorem kw_621 : (Jvm.Cond.instanceMethod ({ cls := "FrameMachine$Arithmetic", name := "markSign", desc := "(II)V" } : Jvm.MethodName)) ∈ lw_tbl := zk_3 (List.mem_of_getElem? (i := 141) rfl)
theorem kw_622 : (Jvm.Cond.code ({ cls := "FrameMachine$Arithmetic", name := "markSign", desc := "(II)V" } : Jvm.MethodName) prog_2_method_3_code (3 : Nat) (Option.none : Option Jvm.ClassFile.FieldType)) ∈ lw_tbl := zk_3 (List.mem_of_getElem? (i := 142) rfl)
theorem kw_623 : (Jvm.Cond.methodLinkNest "FrameMachine$Arithmetic" (25 : Nat) ({ cls := "FrameMachine", name := "topBitOf", desc := "(I)I" } : Jvm.MethodName) "FrameMachine") ∈ lw_tbl := zk_3 (List.mem_of_getElem? (i := 143) rfl)
theorem kw_624 : (Jvm.Cond.static ({ cls := "FrameMachine", name := "topBitOf", desc := "(I)I" } : Jvm.MethodName)) ∈ lw_tbl := zk_3 (List.mem_of_getElem? (i := 144) rfl)
theorem kw_625 : (Jvm.Cond.code ({ cls := "FrameMachine", name := "topBitOf", desc := "(I)I" } : Jvm.MethodName) prog_1_method_14_code (1 : Nat) (Option.some Jvm.ClassFile.FieldType.int)) ∈ lw_tbl := zk_3 (List.mem_of_getElem? (i := 145) rfl)
theorem kw_626 : (Jvm.Cond.constant "FrameMachine" (140 : Nat) (32768 : Int32)) ∈ lw_tbl := zk_3 (List.mem_of_getElem? (i := 146) rfl)
theorem kw_627 : (Jvm.Cond.constant "FrameMachine" (141 : Nat) (-2147483648 : Int32)) ∈ lw_tbl := zk_3 (List.mem_of_getElem? (i := 147) rfl)
theorem kw_628 : (Jvm.Cond.methodLink "FrameMachine$Arithmetic" (19 : Nat) ({ cls := "FrameMachine$Registers", name := "mark", desc := "(IZ)V" } : Jvm.MethodName)) ∈ lw_tbl := zk_3 (List.mem_of_getElem? (i := 148) rfl)
theorem kw_629 : (Jvm.Cond.instanceMethod ({ cls := "FrameMachine$Registers", name := "mark", desc := "(IZ)V" } : Jvm.MethodName)) ∈ lw_tbl := zk_3 (List.mem_of_getElem? (i := 149) rfl)
theorem kw_630 : (Jvm.Cond.selects "FrameMachine$Registers" ({ cls := "FrameMachine$Registers", name := "mark", desc := "(IZ)V" } : Jvm.MethodName) ({ cls := "FrameMachine$Registers", name := "mark", desc := "(IZ)V" } : Jvm.MethodName)) ∈ lw_tbl := zk_3 (List.mem_of_getElem? (i := 150) rfl)
theorem kw_631 : (Jvm.Cond.code ({ cls := "FrameMachine$Registers", name := "mark", desc := "(IZ)V" } : Jvm.MethodName) prog_10_method_6_code (3 : Nat) (Option.none : Option Jvm.ClassFile.FieldType)) ∈ lw_tbl := zk_3 (List.mem_of_getElem? (i := 151) rfl)
theorem kw_632 : (Jvm.Cond.methodLinkNest "FrameMachine$Arithmetic" (29 : Nat) ({ cls := "FrameMachine", name := "maskOf", desc := "(I)I" } : Jvm.MethodName) "FrameMachine") ∈ lw_tbl := zk_3 (List.mem_of_getElem? (i := 152) rfl)
theorem kw_633 : (Jvm.Cond.methodLink "FrameMachine$Processor" (176 : Nat) ({ cls := "FrameMachine$Processor", name := "storeMarked", desc := "(I)V" } : Jvm.MethodName)) ∈ lw_tbl := zk_3 (List.mem_of_getElem? (i := 153) rfl)
theorem kw_635 : (Jvm.Cond.instanceMethod ({ cls := "FrameMachine$Processor", name := "storeMarked", desc := "(I)V" } : Jvm.MethodName)) ∈ lw_tbl := zk_3 (List.mem_of_getElem? (i := 155) rfl)
theorem kw_636 : (Jvm.Cond.code ({ cls := "FrameMachine$Processor", name := "storeMarked", desc := "(I)V" } : Jvm.MethodName) prog_9_method_10_code (2 : Nat) (Option.none : Option Jvm.ClassFile.FieldType)) ∈ lw_tbl := zk_3 (List.mem_of_getElem? (i := 156) rfl)
theorem kw_637 : (Jvm.Cond.methodLink "FrameMachine$Processor" (199 : Nat) ({ cls := "FrameMachine$Operand", name := "store", desc := "(I)V" } : Jvm.MethodName)) ∈ lw_tbl := zk_3 (List.mem_of_getElem? (i := 157) rfl)
theorem kw_638 : (Jvm.Cond.instanceMethod ({ cls := "FrameMachine$Operand", name := "store", desc := "(I)V" } : Jvm.MethodName)) ∈ lw_tbl := zk_3 (List.mem_of_getElem? (i := 158) rfl)
theorem kw_639 : (Jvm.Cond.selects "FrameMachine$Operand" ({ cls := "FrameMachine$Operand", name := "store", desc := "(I)V" } : Jvm.MethodName) ({ cls := "FrameMachine$Operand", name := "store", desc := "(I)V" } : Jvm.MethodName)) ∈ lw_tbl := zk_3 (List.mem_of_getElem? (i := 159) rfl)
theorem kw_640 : (Jvm.Cond.code ({ cls := "FrameMachine$Operand", name := "store", desc := "(I)V" } : Jvm.MethodName) prog_7_method_5_code (2 : Nat) (Option.none : Option Jvm.ClassFile.FieldType)) ∈ lw_tbl := zk_3 (List.mem_of_getElem? (i := 160) rfl)
theorem kw_641 : (Jvm.Cond.methodLink "FrameMachine$Operand" (81 : Nat) ({ cls := "FrameMachine$Registers", name := "putData", desc := "(III)V" } : Jvm.MethodName)) ∈ lw_tbl := zk_3 (List.mem_of_getElem? (i := 161) rfl)
theorem kw_642 : (Jvm.Cond.methodLink "FrameMachine$Operand" (85 : Nat) ({ cls := "FrameMachine$Bus", name := "write", desc := "(III)V" } : Jvm.MethodName)) ∈ lw_tbl := zk_3 (List.mem_of_getElem? (i := 162) rfl)
theorem kw_643 : (Jvm.Cond.methodLinkNest "FrameMachine$Processor" (182 : Nat) ({ cls := "FrameMachine", name := "withSign", desc := "(II)I" } : Jvm.MethodName) "FrameMachine") ∈ lw_tbl := zk_3 (List.mem_of_getElem? (i := 163) rfl)
theorem kw_644 : (Jvm.Cond.static ({ cls := "FrameMachine", name := "withSign", desc := "(II)I" } : Jvm.MethodName)) ∈ lw_tbl := zk_3 (List.mem_of_getElem? (i := 164) rfl)
theorem kw_645 : (Jvm.Cond.code ({ cls := "FrameMachine", name := "withSign", desc := "(II)I" } : Jvm.MethodName) prog_1_method_15_code (2 : Nat) (Option.some Jvm.ClassFile.FieldType.int)) ∈ lw_tbl := zk_3 (List.mem_of_getElem? (i := 165) rfl)
theorem kw_646 : (Jvm.Cond.methodLink "FrameMachine$Processor" (186 : Nat) ({ cls := "FrameMachine$Arithmetic", name := "sum", desc := "(III)I" } : Jvm.MethodName)) ∈ lw_tbl := zk_3 (List.mem_of_getElem? (i := 166) rfl)
theorem kw_647 : (Jvm.Cond.instanceMethod ({ cls := "FrameMachine$Arithmetic", name := "sum", desc := "(III)I" } : Jvm.MethodName)) ∈ lw_tbl := zk_3 (List.mem_of_getElem? (i := 167) rfl)
theorem kw_648 : (Jvm.Cond.selects "FrameMachine$Arithmetic" ({ cls := "FrameMachine$Arithmetic", name := "sum", desc := "(III)I" } : Jvm.MethodName) ({ cls := "FrameMachine$Arithmetic", name := "sum", desc := "(III)I" } : Jvm.MethodName)) ∈ lw_tbl := zk_3 (List.mem_of_getElem? (i := 168) rfl)
theorem kw_649 : (Jvm.Cond.code ({ cls := "FrameMachine$Arithmetic", name := "sum", desc := "(III)I" } : Jvm.MethodName) prog_2_method_4_code (6 : Nat) (Option.some Jvm.ClassFile.FieldType.int)) ∈ lw_tbl := zk_3 (List.mem_of_getElem? (i := 169) rfl)
theorem kw_650 : (Jvm.Cond.methodLink "FrameMachine$Arithmetic" (32 : Nat) ({ cls := "FrameMachine$Arithmetic", name := "isBelow", desc := "(II)Z" } : Jvm.MethodName)) ∈ lw_tbl := zk_3 (List.mem_of_getElem? (i := 170) rfl)
theorem kw_651 : (Jvm.Cond.static ({ cls := "FrameMachine$Arithmetic", name := "isBelow", desc := "(II)Z" } : Jvm.MethodName)) ∈ lw_tbl := zk_3 (List.mem_of_getElem? (i := 171) rfl)
theorem kw_652 : (Jvm.Cond.code ({ cls := "FrameMachine$Arithmetic", name := "isBelow", desc := "(II)Z" } : Jvm.MethodName) prog_2_method_7_code (2 : Nat) (Option.some Jvm.ClassFile.FieldType.boolean)) ∈ lw_tbl := zk_3 (List.mem_of_getElem? (i := 172) rfl)
theorem kw_653 : (Jvm.Cond.constant "FrameMachine$Arithmetic" (44 : Nat) (-2147483648 : Int32)) ∈ lw_tbl := zk_3 (List.mem_of_getElem? (i := 173) rfl)
theorem kw_654 : (Jvm.Cond.methodLink "FrameMachine$Processor" (193 : Nat) ({ cls := "FrameMachine$Arithmetic", name := "difference", desc := "(III)I" } : Jvm.MethodName)) ∈ lw_tbl := zk_3 (List.mem_of_getElem? (i := 174) rfl)
theorem kw_655 : (Jvm.Cond.instanceMethod ({ cls := "FrameMachine$Arithmetic", name := "difference", desc := "(III)I" } : Jvm.MethodName)) ∈ lw_tbl := zk_3 (List.mem_of_getElem? (i := 175) rfl)
theorem kw_656 : (Jvm.Cond.selects "FrameMachine$Arithmetic" ({ cls := "FrameMachine$Arithmetic", name := "difference", desc := "(III)I" } : Jvm.MethodName) ({ cls := "FrameMachine$Arithmetic", name := "difference", desc := "(III)I" } : Jvm.MethodName)) ∈ lw_tbl := zk_3 (List.mem_of_getElem? (i := 176) rfl)
theorem kw_657 : (Jvm.Cond.code ({ cls := "FrameMachine$Arithmetic", name := "difference", desc := "(III)I" } : Jvm.MethodName) prog_2_method_5_code (5 : Nat) (Option.some Jvm.ClassFile.FieldType.int)) ∈ lw_tbl := zk_3 (List.mem_of_getElem? (i := 177) rfl)
theorem kw_658 : (Jvm.Cond.methodLink "FrameMachine$Arithmetic" (36 : Nat) ({ cls := "FrameMachine$Arithmetic", name := "compare", desc := "(III)I" } : Jvm.MethodName)) ∈ lw_tbl := zk_3 (List.mem_of_getElem? (i := 178) rfl)
theorem kw_659 : (Jvm.Cond.instanceMethod ({ cls := "FrameMachine$Arithmetic", name := "compare", desc := "(III)I" } : Jvm.MethodName)) ∈ lw_tbl := zk_3 (List.mem_of_getElem? (i := 179) rfl)
theorem kw_660 : (Jvm.Cond.selects "FrameMachine$Arithmetic" ({ cls := "FrameMachine$Arithmetic", name := "compare", desc := "(III)I" } : Jvm.MethodName) ({ cls := "FrameMachine$Arithmetic", name := "compare", desc := "(III)I" } : Jvm.MethodName)) ∈ lw_tbl := zk_3 (List.mem_of_getElem? (i := 180) rfl)
theorem kw_661 : (Jvm.Cond.code ({ cls := "FrameMachine$Arithmetic", name := "compare", desc := "(III)I" } : Jvm.MethodName) prog_2_method_6_code (6 : Nat) (Option.some Jvm.ClassFile.FieldType.int)) ∈ lw_tbl := zk_3 (List.mem_of_getElem? (i := 181) rfl)
theorem kw_662 : (Jvm.Cond.methodLink "FrameMachine$Arithmetic" (40 : Nat) ({ cls := "FrameMachine$Registers", name := "has", desc := "(I)Z" } : Jvm.MethodName)) ∈ lw_tbl := zk_3 (List.mem_of_getElem? (i := 182) rfl)
theorem kw_663 : (Jvm.Cond.methodLink "FrameMachine$Processor" (196 : Nat) ({ cls := "FrameMachine$Arithmetic", name := "compare", desc := "(III)I" } : Jvm.MethodName)) ∈ lw_tbl := zk_3 (List.mem_of_getElem? (i := 183) rfl)
theorem kw_664 : (Jvm.Cond.methodLink "FrameMachine$Processor" (209 : Nat) ({ cls := "FrameMachine$Processor", name := "shift", desc := "(I)V" } : Jvm.MethodName)) ∈ lw_tbl := zk_3 (List.mem_of_getElem? (i := 184) rfl)
theorem kw_666 : (Jvm.Cond.instanceMethod ({ cls := "FrameMachine$Processor", name := "shift", desc := "(I)V" } : Jvm.MethodName)) ∈ lw_tbl := zk_3 (List.mem_of_getElem? (i := 186) rfl)
theorem kw_667 : (Jvm.Cond.code ({ cls := "FrameMachine$Processor", name := "shift", desc := "(I)V" } : Jvm.MethodName) prog_9_method_11_code (3 : Nat) (Option.none : Option Jvm.ClassFile.FieldType)) ∈ lw_tbl := zk_3 (List.mem_of_getElem? (i := 187) rfl)
theorem kw_668 : (Jvm.Cond.methodLink "FrameMachine$Processor" (252 : Nat) ({ cls := "FrameMachine$Arithmetic", name := "shift", desc := "(IIII)I" } : Jvm.MethodName)) ∈ lw_tbl := zk_3 (List.mem_of_getElem? (i := 188) rfl)
theorem kw_669 : (Jvm.Cond.instanceMethod ({ cls := "FrameMachine$Arithmetic", name := "shift", desc := "(IIII)I" } : Jvm.MethodName)) ∈ lw_tbl := zk_3 (List.mem_of_getElem? (i := 189) rfl)
theorem kw_670 : (Jvm.Cond.selects "FrameMachine$Arithmetic" ({ cls := "FrameMachine$Arithmetic", name := "shift", desc := "(IIII)I" } : Jvm.MethodName) ({ cls := "FrameMachine$Arithmetic", name := "shift", desc := "(IIII)I" } : Jvm.MethodName)) ∈ lw_tbl := zk_3 (List.mem_of_getElem? (i := 190) rfl)
theorem kw_671 : (Jvm.Cond.code ({ cls := "FrameMachine$Arithmetic", name := "shift", desc := "(IIII)I" } : Jvm.MethodName) prog_2_method_8_code (12 : Nat) (Option.some Jvm.ClassFile.FieldType.int)) ∈ lw_tbl := zk_3 (List.mem_of_getElem? (i := 191) rfl)
theorem kw_672 : (Jvm.Cond.methodLink "FrameMachine$Arithmetic" (45 : Nat) ({ cls := "FrameMachine$Arithmetic", name := "onceLeft", desc := "(IIZ)I" } : Jvm.MethodName)) ∈ lw_tbl := zk_3 (List.mem_of_getElem? (i := 192) rfl)
theorem kw_674 : (Jvm.Cond.instanceMethod ({ cls := "FrameMachine$Arithmetic", name := "onceLeft", desc := "(IIZ)I" } : Jvm.MethodName)) ∈ lw_tbl := zk_3 (List.mem_of_getElem? (i := 194) rfl)
theorem kw_675 : (Jvm.Cond.code ({ cls := "FrameMachine$Arithmetic", name := "onceLeft", desc := "(IIZ)I" } : Jvm.MethodName) prog_2_method_9_code (4 : Nat) (Option.some Jvm.ClassFile.FieldType.int)) ∈ lw_tbl := zk_3 (List.mem_of_getElem? (i := 195) rfl)
theorem kw_676 : (Jvm.Cond.constant "FrameMachine$Processor" (212 : Nat) (65535 : Int32)) ∈ lw_tbl := zk_3 (List.mem_of_getElem? (i := 196) rfl)
theorem kw_677 : (Jvm.Cond.methodLink "FrameMachine$Processor" (213 : Nat) ({ cls := "FrameMachine$Processor", name := "multiply", desc := "(II)V" } : Jvm.MethodName)) ∈ lw_tbl := zk_3 (List.mem_of_getElem? (i := 197) rfl)
theorem kw_679 : (Jvm.Cond.instanceMethod ({ cls := "FrameMachine$Processor", name := "multiply", desc := "(II)V" } : Jvm.MethodName)) ∈ lw_tbl := zk_3 (List.mem_of_getElem? (i := 199) rfl)
theorem kw_680 : (Jvm.Cond.code ({ cls := "FrameMachine$Processor", name := "multiply", desc := "(II)V" } : Jvm.MethodName) prog_9_method_12_code (3 : Nat) (Option.none : Option Jvm.ClassFile.FieldType)) ∈ lw_tbl := zk_3 (List.mem_of_getElem? (i := 200) rfl)
theorem kw_681 : (Jvm.Cond.constantLong "FrameMachine$Processor" (216 : Nat) (4294967295 : Int64)) ∈ lw_tbl := zk_3 (List.mem_of_getElem? (i := 201) rfl)
theorem kw_682 : (Jvm.Cond.methodLink "FrameMachine$Processor" (218 : Nat) ({ cls := "FrameMachine$Processor", name := "divide", desc := "(JJZ)V" } : Jvm.MethodName)) ∈ lw_tbl := zk_3 (List.mem_of_getElem? (i := 202) rfl)
theorem kw_684 : (Jvm.Cond.instanceMethod ({ cls := "FrameMachine$Processor", name := "divide", desc := "(JJZ)V" } : Jvm.MethodName)) ∈ lw_tbl := zk_3 (List.mem_of_getElem? (i := 204) rfl)
theorem kw_685 : (Jvm.Cond.code ({ cls := "FrameMachine$Processor", name := "divide", desc := "(JJZ)V" } : Jvm.MethodName) prog_9_method_13_code (6 : Nat) (Option.none : Option Jvm.ClassFile.FieldType)) ∈ lw_tbl := zk_3 (List.mem_of_getElem? (i := 205) rfl)
theorem kw_686 : (Jvm.Cond.methodLink "FrameMachine$Processor" (255 : Nat) ({ cls := "FrameMachine$Arithmetic", name := "divide", desc := "(IJJZ)V" } : Jvm.MethodName)) ∈ lw_tbl := zk_3 (List.mem_of_getElem? (i := 206) rfl)
theorem kw_687 : (Jvm.Cond.instanceMethod ({ cls := "FrameMachine$Arithmetic", name := "divide", desc := "(IJJZ)V" } : Jvm.MethodName)) ∈ lw_tbl := zk_3 (List.mem_of_getElem? (i := 207) rfl)
theorem kw_688 : (Jvm.Cond.selects "FrameMachine$Arithmetic" ({ cls := "FrameMachine$Arithmetic", name := "divide", desc := "(IJJZ)V" } : Jvm.MethodName) ({ cls := "FrameMachine$Arithmetic", name := "divide", desc := "(IJJZ)V" } : Jvm.MethodName)) ∈ lw_tbl := zk_3 (List.mem_of_getElem? (i := 208) rfl)
theorem kw_689 : (Jvm.Cond.code ({ cls := "FrameMachine$Arithmetic", name := "divide", desc := "(IJJZ)V" } : Jvm.MethodName) prog_2_method_10_code (12 : Nat) (Option.none : Option Jvm.ClassFile.FieldType)) ∈ lw_tbl := zk_3 (List.mem_of_getElem? (i := 209) rfl)
theorem kw_690 : (Jvm.Cond.constantLong "FrameMachine$Arithmetic" (49 : Nat) (65535 : Int64)) ∈ lw_tbl := zk_3 (List.mem_of_getElem? (i := 210) rfl)
theorem kw_691 : (Jvm.Cond.constant "FrameMachine$Arithmetic" (51 : Nat) (65535 : Int32)) ∈ lw_tbl := zk_3 (List.mem_of_getElem? (i := 211) rfl)
theorem kw_692 : (Jvm.Cond.methodLink "FrameMachine$Arithmetic" (52 : Nat) ({ cls := "FrameMachine$Registers", name := "putData", desc := "(III)V" } : Jvm.MethodName)) ∈ lw_tbl := zk_3 (List.mem_of_getElem? (i := 212) rfl)
theorem kw_693 : (Jvm.Cond.methodLink "FrameMachine$Arithmetic" (56 : Nat) ({ cls := "FrameMachine$Arithmetic", name := "markResult", desc := "(II)V" } : Jvm.MethodName)) ∈ lw_tbl := zk_3 (List.mem_of_getElem? (i := 213) rfl)
theorem kw_694 : (Jvm.Cond.methodLink "FrameMachine$Processor" (222 : Nat) ({ cls := "FrameMachine$Processor", name := "branch", desc := "()V" } : Jvm.MethodName)) ∈ lw_tbl := zk_3 (List.mem_of_getElem? (i := 214) rfl)
theorem kw_696 : (Jvm.Cond.instanceMethod ({ cls := "FrameMachine$Processor", name := "branch", desc := "()V" } : Jvm.MethodName)) ∈ lw_tbl := zk_3 (List.mem_of_getElem? (i := 216) rfl)
theorem kw_697 : (Jvm.Cond.code ({ cls := "FrameMachine$Processor", name := "branch", desc := "()V" } : Jvm.MethodName) prog_9_method_14_code (3 : Nat) (Option.none : Option Jvm.ClassFile.FieldType)) ∈ lw_tbl := zk_3 (List.mem_of_getElem? (i := 217) rfl)
theorem kw_698 : (Jvm.Cond.methodLink "FrameMachine$Processor" (258 : Nat) ({ cls := "FrameMachine$Instruction", name := "condition", desc := "()I" } : Jvm.MethodName)) ∈ lw_tbl := zk_3 (List.mem_of_getElem? (i := 218) rfl)
theorem kw_699 : (Jvm.Cond.methodLink "FrameMachine$Processor" (225 : Nat) ({ cls := "FrameMachine$Processor", name := "call", desc := "(I)V" } : Jvm.MethodName)) ∈ lw_tbl := zk_3 (List.mem_of_getElem? (i := 219) rfl)
theorem kw_701 : (Jvm.Cond.instanceMethod ({ cls := "FrameMachine$Processor", name := "call", desc := "(I)V" } : Jvm.MethodName)) ∈ lw_tbl := zk_3 (List.mem_of_getElem? (i := 221) rfl)
theorem kw_702 : (Jvm.Cond.code ({ cls := "FrameMachine$Processor", name := "call", desc := "(I)V" } : Jvm.MethodName) prog_9_method_15_code (2 : Nat) (Option.none : Option Jvm.ClassFile.FieldType)) ∈ lw_tbl := zk_3 (List.mem_of_getElem? (i := 222) rfl)
theorem kw_703 : (Jvm.Cond.methodLink "FrameMachine$Processor" (264 : Nat) ({ cls := "FrameMachine$Pointers", name := "push", desc := "(II)V" } : Jvm.MethodName)) ∈ lw_tbl := zk_3 (List.mem_of_getElem? (i := 223) rfl)
theorem kw_704 : (Jvm.Cond.methodLink "FrameMachine$Processor" (261 : Nat) ({ cls := "FrameMachine$Registers", name := "meets", desc := "(I)Z" } : Jvm.MethodName)) ∈ lw_tbl := zk_3 (List.mem_of_getElem? (i := 224) rfl)
theorem kw_705 : (Jvm.Cond.instanceMethod ({ cls := "FrameMachine$Registers", name := "meets", desc := "(I)Z" } : Jvm.MethodName)) ∈ lw_tbl := zk_3 (List.mem_of_getElem? (i := 225) rfl)
theorem kw_706 : (Jvm.Cond.selects "FrameMachine$Registers" ({ cls := "FrameMachine$Registers", name := "meets", desc := "(I)Z" } : Jvm.MethodName) ({ cls := "FrameMachine$Registers", name := "meets", desc := "(I)Z" } : Jvm.MethodName)) ∈ lw_tbl := zk_3 (List.mem_of_getElem? (i := 226) rfl)
theorem kw_707 : (Jvm.Cond.code ({ cls := "FrameMachine$Registers", name := "meets", desc := "(I)Z" } : Jvm.MethodName) prog_10_method_9_code (3 : Nat) (Option.some Jvm.ClassFile.FieldType.boolean)) ∈ lw_tbl := zk_3 (List.mem_of_getElem? (i := 227) rfl)
theorem kw_708 : (Jvm.Cond.methodLink "FrameMachine$Registers" (33 : Nat) ({ cls := "FrameMachine$Registers", name := "has", desc := "(I)Z" } : Jvm.MethodName)) ∈ lw_tbl := zk_3 (List.mem_of_getElem? (i := 228) rfl)
theorem kw_709 : (Jvm.Cond.methodLink "FrameMachine$Processor" (228 : Nat) ({ cls := "FrameMachine$Processor", name := "control", desc := "()V" } : Jvm.MethodName)) ∈ lw_tbl := zk_3 (List.mem_of_getElem? (i := 229) rfl)
theorem kw_711 : (Jvm.Cond.instanceMethod ({ cls := "FrameMachine$Processor", name := "control", desc := "()V" } : Jvm.MethodName)) ∈ lw_tbl := zk_3 (List.mem_of_getElem? (i := 231) rfl)
theorem kw_712 : (Jvm.Cond.code ({ cls := "FrameMachine$Processor", name := "control", desc := "()V" } : Jvm.MethodName) prog_9_method_16_code (1 : Nat) (Option.none : Option Jvm.ClassFile.FieldType)) ∈ lw_tbl := zk_3 (List.mem_of_getElem? (i := 232) rfl)
theorem kw_713 : (Jvm.Cond.methodLink "FrameMachine$Processor" (267 : Nat) ({ cls := "FrameMachine$Processor", name := "comeBack", desc := "()V" } : Jvm.MethodName)) ∈ lw_tbl := zk_3 (List.mem_of_getElem? (i := 233) rfl)
theorem kw_715 : (Jvm.Cond.instanceMethod ({ cls := "FrameMachine$Processor", name := "comeBack", desc := "()V" } : Jvm.MethodName)) ∈ lw_tbl := zk_3 (List.mem_of_getElem? (i := 235) rfl)
theorem kw_716 : (Jvm.Cond.code ({ cls := "FrameMachine$Processor", name := "comeBack", desc := "()V" } : Jvm.MethodName) prog_9_method_17_code (2 : Nat) (Option.none : Option Jvm.ClassFile.FieldType)) ∈ lw_tbl := zk_3 (List.mem_of_getElem? (i := 236) rfl)
theorem kw_717 : (Jvm.Cond.methodLink "FrameMachine$Processor" (276 : Nat) ({ cls := "FrameMachine$Pointers", name := "pop", desc := "(I)I" } : Jvm.MethodName)) ∈ lw_tbl := zk_3 (List.mem_of_getElem? (i := 237) rfl)
theorem kw_718 : (Jvm.Cond.instanceMethod ({ cls := "FrameMachine$Pointers", name := "pop", desc := "(I)I" } : Jvm.MethodName)) ∈ lw_tbl := zk_3 (List.mem_of_getElem? (i := 238) rfl)
theorem kw_719 : (Jvm.Cond.selects "FrameMachine$Pointers" ({ cls := "FrameMachine$Pointers", name := "pop", desc := "(I)I" } : Jvm.MethodName) ({ cls := "FrameMachine$Pointers", name := "pop", desc := "(I)I" } : Jvm.MethodName)) ∈ lw_tbl := zk_3 (List.mem_of_getElem? (i := 239) rfl)
theorem kw_720 : (Jvm.Cond.code ({ cls := "FrameMachine$Pointers", name := "pop", desc := "(I)I" } : Jvm.MethodName) prog_8_method_5_code (3 : Nat) (Option.some Jvm.ClassFile.FieldType.int)) ∈ lw_tbl := zk_4 (List.mem_of_getElem? (i := 0) rfl)
theorem kw_721 : (Jvm.Cond.methodLink "FrameMachine$Processor" (270 : Nat) ({ cls := "FrameMachine$Processor", name := "comeBackFromException", desc := "()V" } : Jvm.MethodName)) ∈ lw_tbl := zk_4 (List.mem_of_getElem? (i := 1) rfl)
theorem kw_723 : (Jvm.Cond.instanceMethod ({ cls := "FrameMachine$Processor", name := "comeBackFromException", desc := "()V" } : Jvm.MethodName)) ∈ lw_tbl := zk_4 (List.mem_of_getElem? (i := 3) rfl)
theorem kw_724 : (Jvm.Cond.code ({ cls := "FrameMachine$Processor", name := "comeBackFromException", desc := "()V" } : Jvm.MethodName) prog_9_method_18_code (3 : Nat) (Option.none : Option Jvm.ClassFile.FieldType)) ∈ lw_tbl := zk_4 (List.mem_of_getElem? (i := 4) rfl)
theorem kw_725 : (Jvm.Cond.methodLink "FrameMachine$Processor" (237 : Nat) ({ cls := "FrameMachine$Registers", name := "changeStatus", desc := "(I)V" } : Jvm.MethodName)) ∈ lw_tbl := zk_4 (List.mem_of_getElem? (i := 5) rfl)
theorem kw_726 : (Jvm.Cond.methodLink "FrameMachine$Processor" (273 : Nat) ({ cls := "FrameMachine$Processor", name := "stop", desc := "()V" } : Jvm.MethodName)) ∈ lw_tbl := zk_4 (List.mem_of_getElem? (i := 6) rfl)
theorem kw_728 : (Jvm.Cond.instanceMethod ({ cls := "FrameMachine$Processor", name := "stop", desc := "()V" } : Jvm.MethodName)) ∈ lw_tbl := zk_4 (List.mem_of_getElem? (i := 8) rfl)
theorem kw_729 : (Jvm.Cond.code ({ cls := "FrameMachine$Processor", name := "stop", desc := "()V" } : Jvm.MethodName) prog_9_method_19_code (2 : Nat) (Option.none : Option Jvm.ClassFile.FieldType)) ∈ lw_tbl := zk_4 (List.mem_of_getElem? (i := 9) rfl)
theorem kw_730 : (Jvm.Cond.methodLink "FrameMachine$Processor" (243 : Nat) ({ cls := "FrameMachine$Processor", name := "exchangeOther", desc := "()V" } : Jvm.MethodName)) ∈ lw_tbl := zk_4 (List.mem_of_getElem? (i := 10) rfl)
theorem kw_732 : (Jvm.Cond.instanceMethod ({ cls := "FrameMachine$Processor", name := "exchangeOther", desc := "()V" } : Jvm.MethodName)) ∈ lw_tbl := zk_4 (List.mem_of_getElem? (i := 12) rfl)
theorem kw_733 : (Jvm.Cond.code ({ cls := "FrameMachine$Processor", name := "exchangeOther", desc := "()V" } : Jvm.MethodName) prog_9_method_20_code (2 : Nat) (Option.none : Option Jvm.ClassFile.FieldType)) ∈ lw_tbl := zk_4 (List.mem_of_getElem? (i := 13) rfl)
theorem kw_734 : (Jvm.Cond.methodLink "FrameMachine$Processor" (246 : Nat) ({ cls := "FrameMachine$Processor", name := "check", desc := "(II)V" } : Jvm.MethodName)) ∈ lw_tbl := zk_4 (List.mem_of_getElem? (i := 14) rfl)
theorem kw_736 : (Jvm.Cond.instanceMethod ({ cls := "FrameMachine$Processor", name := "check", desc := "(II)V" } : Jvm.MethodName)) ∈ lw_tbl := zk_4 (List.mem_of_getElem? (i := 16) rfl)
theorem kw_737 : (Jvm.Cond.code ({ cls := "FrameMachine$Processor", name := "check", desc := "(II)V" } : Jvm.MethodName) prog_9_method_21_code (3 : Nat) (Option.none : Option Jvm.ClassFile.FieldType)) ∈ lw_tbl := zk_4 (List.mem_of_getElem? (i := 17) rfl)
theorem kw_738 : (Jvm.Cond.methodLink "FrameMachine$Processor" (283 : Nat) ({ cls := "FrameMachine$Registers", name := "mark", desc := "(IZ)V" } : Jvm.MethodName)) ∈ lw_tbl := zk_4 (List.mem_of_getElem? (i := 18) rfl)
theorem kw_739 : (Jvm.Cond.methodLink "FrameMachine$Processor" (113 : Nat) ({ cls := "FrameMachine$Processor", name := "finish", desc := "(Z)V" } : Jvm.MethodName)) ∈ lw_tbl := zk_4 (List.mem_of_getElem? (i := 19) rfl)
theorem kw_741 : (Jvm.Cond.instanceMethod ({ cls := "FrameMachine$Processor", name := "finish", desc := "(Z)V" } : Jvm.MethodName)) ∈ lw_tbl := zk_4 (List.mem_of_getElem? (i := 21) rfl)
theorem kw_742 : (Jvm.Cond.code ({ cls := "FrameMachine$Processor", name := "finish", desc := "(Z)V" } : Jvm.MethodName) prog_9_method_6_code (4 : Nat) (Option.none : Option Jvm.ClassFile.FieldType)) ∈ lw_tbl := zk_4 (List.mem_of_getElem? (i := 22) rfl)
theorem kw_743 : (Jvm.Cond.methodLink "FrameMachine$Processor" (154 : Nat) ({ cls := "FrameMachine$Exceptions", name := "latestForbidsTrace", desc := "()Z" } : Jvm.MethodName)) ∈ lw_tbl := zk_4 (List.mem_of_getElem? (i := 23) rfl)
theorem kw_744 : (Jvm.Cond.instanceMethod ({ cls := "FrameMachine$Exceptions", name := "latestForbidsTrace", desc := "()Z" } : Jvm.MethodName)) ∈ lw_tbl := zk_4 (List.mem_of_getElem? (i := 24) rfl)
theorem kw_745 : (Jvm.Cond.selects "FrameMachine$Exceptions" ({ cls := "FrameMachine$Exceptions", name := "latestForbidsTrace", desc := "()Z" } : Jvm.MethodName) ({ cls := "FrameMachine$Exceptions", name := "latestForbidsTrace", desc := "()Z" } : Jvm.MethodName)) ∈ lw_tbl := zk_4 (List.mem_of_getElem? (i := 25) rfl)
theorem kw_746 : (Jvm.Cond.code ({ cls := "FrameMachine$Exceptions", name := "latestForbidsTrace", desc := "()Z" } : Jvm.MethodName) prog_5_method_7_code (1 : Nat) (Option.some Jvm.ClassFile.FieldType.boolean)) ∈ lw_tbl := zk_4 (List.mem_of_getElem? (i := 26) rfl)
theorem kw_755 : (Jvm.Cond.methodLink "FrameMachine" (99 : Nat) ({ cls := "FrameMachine$Devices", name := "receive", desc := "(I)Z" } : Jvm.MethodName)) ∈ lw_tbl := zk_4 (List.mem_of_getElem? (i := 35) rfl)
theorem kw_756 : (Jvm.Cond.instanceMethod ({ cls := "FrameMachine$Devices", name := "receive", desc := "(I)Z" } : Jvm.MethodName)) ∈ lw_tbl := zk_4 (List.mem_of_getElem? (i := 36) rfl)
theorem kw_757 : (Jvm.Cond.selects "FrameMachine$Devices" ({ cls := "FrameMachine$Devices", name := "receive", desc := "(I)Z" } : Jvm.MethodName) ({ cls := "FrameMachine$Devices", name := "receive", desc := "(I)Z" } : Jvm.MethodName)) ∈ lw_tbl := zk_4 (List.mem_of_getElem? (i := 37) rfl)
theorem kw_758 : (Jvm.Cond.code ({ cls := "FrameMachine$Devices", name := "receive", desc := "(I)Z" } : Jvm.MethodName) prog_4_method_7_code (2 : Nat) (Option.some Jvm.ClassFile.FieldType.boolean)) ∈ lw_tbl := zk_4 (List.mem_of_getElem? (i := 38) rfl)
theorem kw_766 : (Jvm.Cond.methodLink "FrameMachine" (120 : Nat) ({ cls := "FrameMachine$Registers", name := "value", desc := "(I)I" } : Jvm.MethodName)) ∈ lw_tbl := zk_4 (List.mem_of_getElem? (i := 46) rfl)
theorem kw_767 : (Jvm.Cond.instanceMethod ({ cls := "FrameMachine$Registers", name := "value", desc := "(I)I" } : Jvm.MethodName)) ∈ lw_tbl := zk_4 (List.mem_of_getElem? (i := 47) rfl)
theorem kw_768 : (Jvm.Cond.selects "FrameMachine$Registers" ({ cls := "FrameMachine$Registers", name := "value", desc := "(I)I" } : Jvm.MethodName) ({ cls := "FrameMachine$Registers", name := "value", desc := "(I)I" } : Jvm.MethodName)) ∈ lw_tbl := zk_4 (List.mem_of_getElem? (i := 48) rfl)
theorem kw_769 : (Jvm.Cond.code ({ cls := "FrameMachine$Registers", name := "value", desc := "(I)I" } : Jvm.MethodName) prog_10_method_3_code (2 : Nat) (Option.some Jvm.ClassFile.FieldType.int)) ∈ lw_tbl := zk_4 (List.mem_of_getElem? (i := 49) rfl)
theorem kw_776 : (Jvm.Cond.fieldLink "FrameMachineModel" (38 : Nat) "FrameMachineModel" "threw" "I") ∈ lw_tbl := zk_4 (List.mem_of_getElem? (i := 56) rfl)
theorem kw_777 : (Jvm.Cond.fieldLink "FrameMachineModel" (7 : Nat) "FrameMachineModel" "memory" "[I") ∈ lw_tbl := zk_4 (List.mem_of_getElem? (i := 57) rfl)
theorem kw_778 : (Jvm.Cond.fieldLink "FrameMachineModel" (13 : Nat) "FrameMachineModel" "d" "[I") ∈ lw_tbl := zk_4 (List.mem_of_getElem? (i := 58) rfl)
theorem kw_779 : (Jvm.Cond.fieldLink "FrameMachineModel" (16 : Nat) "FrameMachineModel" "a" "[I") ∈ lw_tbl := zk_4 (List.mem_of_getElem? (i := 59) rfl)
theorem kw_780 : (Jvm.Cond.fieldLink "FrameMachineModel" (137 : Nat) "FrameMachineModel" "other" "I") ∈ lw_tbl := zk_4 (List.mem_of_getElem? (i := 60) rfl)
theorem kw_781 : (Jvm.Cond.fieldLink "FrameMachineModel" (103 : Nat) "FrameMachineModel" "pc" "I") ∈ lw_tbl := zk_4 (List.mem_of_getElem? (i := 61) rfl)
theorem kw_782 : (Jvm.Cond.fieldLink "FrameMachineModel" (119 : Nat) "FrameMachineModel" "trace" "I") ∈ lw_tbl := zk_4 (List.mem_of_getElem? (i := 62) rfl)
theorem kw_783 : (Jvm.Cond.fieldLink "FrameMachineModel" (19 : Nat) "FrameMachineModel" "above" "I") ∈ lw_tbl := zk_4 (List.mem_of_getElem? (i := 63) rfl)
theorem kw_784 : (Jvm.Cond.fieldLink "FrameMachineModel" (23 : Nat) "FrameMachineModel" "mask" "I") ∈ lw_tbl := zk_4 (List.mem_of_getElem? (i := 64) rfl)
theorem kw_785 : (Jvm.Cond.fieldLink "FrameMachineModel" (122 : Nat) "FrameMachineModel" "x" "I") ∈ lw_tbl := zk_4 (List.mem_of_getElem? (i := 65) rfl)
theorem kw_786 : (Jvm.Cond.fieldLink "FrameMachineModel" (125 : Nat) "FrameMachineModel" "n" "I") ∈ lw_tbl := zk_4 (List.mem_of_getElem? (i := 66) rfl)
theorem kw_787 : (Jvm.Cond.fieldLink "FrameMachineModel" (128 : Nat) "FrameMachineModel" "z" "I") ∈ lw_tbl := zk_4 (List.mem_of_getElem? (i := 67) rfl)
theorem kw_788 : (Jvm.Cond.fieldLink "FrameMachineModel" (131 : Nat) "FrameMachineModel" "v" "I") ∈ lw_tbl := zk_4 (List.mem_of_getElem? (i := 68) rfl)
theorem kw_789 : (Jvm.Cond.fieldLink "FrameMachineModel" (134 : Nat) "FrameMachineModel" "c" "I") ∈ lw_tbl := zk_4 (List.mem_of_getElem? (i := 69) rfl)
theorem kw_790 : (Jvm.Cond.fieldLink "FrameMachineModel" (229 : Nat) "FrameMachineModel" "state" "I") ∈ lw_tbl := zk_4 (List.mem_of_getElem? (i := 70) rfl)
theorem kw_791 : (Jvm.Cond.fieldLink "FrameMachineModel" (281 : Nat) "FrameMachineModel" "steps" "I") ∈ lw_tbl := zk_4 (List.mem_of_getElem? (i := 71) rfl)
theorem kw_792 : (Jvm.Cond.fieldLink "FrameMachineModel" (256 : Nat) "FrameMachineModel" "latest" "I") ∈ lw_tbl := zk_4 (List.mem_of_getElem? (i := 72) rfl)
theorem kw_793 : (Jvm.Cond.fieldLink "FrameMachineModel" (259 : Nat) "FrameMachineModel" "exceptions" "I") ∈ lw_tbl := zk_4 (List.mem_of_getElem? (i := 73) rfl)
theorem kw_794 : (Jvm.Cond.fieldLink "FrameMachineModel" (64 : Nat) "FrameMachineModel" "fault" "I") ∈ lw_tbl := zk_4 (List.mem_of_getElem? (i := 74) rfl)
theorem kw_795 : (Jvm.Cond.fieldLink "FrameMachineModel" (77 : Nat) "FrameMachineModel" "faultAt" "I") ∈ lw_tbl := zk_4 (List.mem_of_getElem? (i := 75) rfl)
theorem kw_796 : (Jvm.Cond.fieldLink "FrameMachineModel" (80 : Nat) "FrameMachineModel" "faultReads" "I") ∈ lw_tbl := zk_4 (List.mem_of_getElem? (i := 76) rfl)
theorem kw_797 : (Jvm.Cond.fieldLink "FrameMachineModel" (265 : Nat) "FrameMachineModel" "first" "I") ∈ lw_tbl := zk_4 (List.mem_of_getElem? (i := 77) rfl)
theorem kw_798 : (Jvm.Cond.fieldLink "FrameMachineModel" (174 : Nat) "FrameMachineModel" "own" "I") ∈ lw_tbl := zk_4 (List.mem_of_getElem? (i := 78) rfl)
theorem kw_799 : (Jvm.Cond.fieldLink "FrameMachineModel" (262 : Nat) "FrameMachineModel" "ended" "I") ∈ lw_tbl := zk_4 (List.mem_of_getElem? (i := 79) rfl)
theorem kw_800 : (Jvm.Cond.fieldLink "FrameMachineModel" (151 : Nat) "FrameMachineModel" "place" "I") ∈ lw_tbl := zk_4 (List.mem_of_getElem? (i := 80) rfl)
theorem kw_801 : (Jvm.Cond.fieldLink "FrameMachineModel" (26 : Nat) "FrameMachineModel" "count" "I") ∈ lw_tbl := zk_4 (List.mem_of_getElem? (i := 81) rfl)
theorem kw_802 : (Jvm.Cond.fieldLink "FrameMachineModel" (55 : Nat) "FrameMachineModel" "reload" "I") ∈ lw_tbl := zk_4 (List.mem_of_getElem? (i := 82) rfl)
theorem kw_803 : (Jvm.Cond.fieldLink "FrameMachineModel" (45 : Nat) "FrameMachineModel" "goes" "Z") ∈ lw_tbl := zk_4 (List.mem_of_getElem? (i := 83) rfl)
theorem kw_804 : (Jvm.Cond.fieldLink "FrameMachineModel" (49 : Nat) "FrameMachineModel" "due" "Z") ∈ lw_tbl := zk_4 (List.mem_of_getElem? (i := 84) rfl)
theorem kw_805 : (Jvm.Cond.fieldLink "FrameMachineModel" (29 : Nat) "FrameMachineModel" "came" "I") ∈ lw_tbl := zk_4 (List.mem_of_getElem? (i := 85) rfl)
theorem kw_806 : (Jvm.Cond.fieldLink "FrameMachineModel" (52 : Nat) "FrameMachineModel" "lost" "Z") ∈ lw_tbl := zk_4 (List.mem_of_getElem? (i := 86) rfl)
theorem kw_807 : (Jvm.Cond.fieldLink "FrameMachineModel" (32 : Nat) "FrameMachineModel" "sending" "I") ∈ lw_tbl := zk_4 (List.mem_of_getElem? (i := 87) rfl)
theorem kw_808 : (Jvm.Cond.fieldLink "FrameMachineModel" (58 : Nat) "FrameMachineModel" "left" "I") ∈ lw_tbl := zk_4 (List.mem_of_getElem? (i := 88) rfl)
theorem kw_809 : (Jvm.Cond.fieldLink "FrameMachineModel" (61 : Nat) "FrameMachineModel" "gone" "I") ∈ lw_tbl := zk_4 (List.mem_of_getElem? (i := 89) rfl)
theorem kw_810 : (Jvm.Cond.fieldLink "FrameMachineModel" (35 : Nat) "FrameMachineModel" "ring" "[I") ∈ lw_tbl := zk_4 (List.mem_of_getElem? (i := 90) rfl)
theorem kw_811 : (Jvm.Cond.lays "FrameMachineModel" "FrameMachineModel" "threw" "I") ∈ lw_tbl := zk_4 (List.mem_of_getElem? (i := 91) rfl)
theorem kw_813 : (Jvm.Cond.laysFinal "FrameMachineModel" "FrameMachineModel" "memory" "[I") ∈ lw_tbl := zk_4 (List.mem_of_getElem? (i := 93) rfl)
theorem kw_815 : (Jvm.Cond.laysFinal "FrameMachineModel" "FrameMachineModel" "d" "[I") ∈ lw_tbl := zk_4 (List.mem_of_getElem? (i := 95) rfl)
theorem kw_817 : (Jvm.Cond.laysFinal "FrameMachineModel" "FrameMachineModel" "a" "[I") ∈ lw_tbl := zk_4 (List.mem_of_getElem? (i := 97) rfl)
theorem kw_819 : (Jvm.Cond.lays "FrameMachineModel" "FrameMachineModel" "other" "I") ∈ lw_tbl := zk_4 (List.mem_of_getElem? (i := 99) rfl)
theorem kw_821 : (Jvm.Cond.lays "FrameMachineModel" "FrameMachineModel" "pc" "I") ∈ lw_tbl := zk_4 (List.mem_of_getElem? (i := 101) rfl)
theorem kw_823 : (Jvm.Cond.lays "FrameMachineModel" "FrameMachineModel" "trace" "I") ∈ lw_tbl := zk_4 (List.mem_of_getElem? (i := 103) rfl)
theorem kw_825 : (Jvm.Cond.lays "FrameMachineModel" "FrameMachineModel" "above" "I") ∈ lw_tbl := zk_4 (List.mem_of_getElem? (i := 105) rfl)
theorem kw_827 : (Jvm.Cond.lays "FrameMachineModel" "FrameMachineModel" "mask" "I") ∈ lw_tbl := zk_4 (List.mem_of_getElem? (i := 107) rfl)
theorem kw_829 : (Jvm.Cond.lays "FrameMachineModel" "FrameMachineModel" "x" "I") ∈ lw_tbl := zk_4 (List.mem_of_getElem? (i := 109) rfl)
theorem kw_831 : (Jvm.Cond.lays "FrameMachineModel" "FrameMachineModel" "n" "I") ∈ lw_tbl := zk_4 (List.mem_of_getElem? (i := 111) rfl)
theorem kw_833 : (Jvm.Cond.lays "FrameMachineModel" "FrameMachineModel" "z" "I") ∈ lw_tbl := zk_4 (List.mem_of_getElem? (i := 113) rfl)
theorem kw_835 : (Jvm.Cond.lays "FrameMachineModel" "FrameMachineModel" "v" "I") ∈ lw_tbl := zk_4 (List.mem_of_getElem? (i := 115) rfl)
theorem kw_837 : (Jvm.Cond.lays "FrameMachineModel" "FrameMachineModel" "c" "I") ∈ lw_tbl := zk_4 (List.mem_of_getElem? (i := 117) rfl)
theorem kw_839 : (Jvm.Cond.lays "FrameMachineModel" "FrameMachineModel" "state" "I") ∈ lw_tbl := zk_4 (List.mem_of_getElem? (i := 119) rfl)
theorem kw_841 : (Jvm.Cond.lays "FrameMachineModel" "FrameMachineModel" "steps" "I") ∈ lw_tbl := zk_4 (List.mem_of_getElem? (i := 121) rfl)
theorem kw_843 : (Jvm.Cond.lays "FrameMachineModel" "FrameMachineModel" "latest" "I") ∈ lw_tbl := zk_4 (List.mem_of_getElem? (i := 123) rfl)
theorem kw_845 : (Jvm.Cond.lays "FrameMachineModel" "FrameMachineModel" "exceptions" "I") ∈ lw_tbl := zk_4 (List.mem_of_getElem? (i := 125) rfl)
theorem kw_847 : (Jvm.Cond.lays "FrameMachineModel" "FrameMachineModel" "fault" "I") ∈ lw_tbl := zk_4 (List.mem_of_getElem? (i := 127) rfl)
theorem kw_849 : (Jvm.Cond.lays "FrameMachineModel" "FrameMachineModel" "faultAt" "I") ∈ lw_tbl := zk_4 (List.mem_of_getElem? (i := 129) rfl)
theorem kw_851 : (Jvm.Cond.lays "FrameMachineModel" "FrameMachineModel" "faultReads" "I") ∈ lw_tbl := zk_4 (List.mem_of_getElem? (i := 131) rfl)
theorem kw_853 : (Jvm.Cond.lays "FrameMachineModel" "FrameMachineModel" "first" "I") ∈ lw_tbl := zk_4 (List.mem_of_getElem? (i := 133) rfl)
theorem kw_855 : (Jvm.Cond.lays "FrameMachineModel" "FrameMachineModel" "own" "I") ∈ lw_tbl := zk_4 (List.mem_of_getElem? (i := 135) rfl)
theorem kw_857 : (Jvm.Cond.lays "FrameMachineModel" "FrameMachineModel" "ended" "I") ∈ lw_tbl := zk_4 (List.mem_of_getElem? (i := 137) rfl)
theorem kw_859 : (Jvm.Cond.lays "FrameMachineModel" "FrameMachineModel" "place" "I") ∈ lw_tbl := zk_4 (List.mem_of_getElem? (i := 139) rfl)
theorem kw_861 : (Jvm.Cond.lays "FrameMachineModel" "FrameMachineModel" "count" "I") ∈ lw_tbl := zk_4 (List.mem_of_getElem? (i := 141) rfl)
theorem kw_863 : (Jvm.Cond.lays "FrameMachineModel" "FrameMachineModel" "reload" "I") ∈ lw_tbl := zk_4 (List.mem_of_getElem? (i := 143) rfl)
theorem kw_865 : (Jvm.Cond.lays "FrameMachineModel" "FrameMachineModel" "goes" "Z") ∈ lw_tbl := zk_4 (List.mem_of_getElem? (i := 145) rfl)
theorem kw_867 : (Jvm.Cond.lays "FrameMachineModel" "FrameMachineModel" "due" "Z") ∈ lw_tbl := zk_4 (List.mem_of_getElem? (i := 147) rfl)
theorem kw_869 : (Jvm.Cond.lays "FrameMachineModel" "FrameMachineModel" "came" "I") ∈ lw_tbl := zk_4 (List.mem_of_getElem? (i := 149) rfl)
theorem kw_871 : (Jvm.Cond.lays "FrameMachineModel" "FrameMachineModel" "lost" "Z") ∈ lw_tbl := zk_4 (List.mem_of_getElem? (i := 151) rfl)
theorem kw_873 : (Jvm.Cond.lays "FrameMachineModel" "FrameMachineModel" "sending" "I") ∈ lw_tbl := zk_4 (List.mem_of_getElem? (i := 153) rfl)
theorem kw_875 : (Jvm.Cond.lays "FrameMachineModel" "FrameMachineModel" "left" "I") ∈ lw_tbl := zk_4 (List.mem_of_getElem? (i := 155) rfl)
theorem kw_877 : (Jvm.Cond.lays "FrameMachineModel" "FrameMachineModel" "gone" "I") ∈ lw_tbl := zk_4 (List.mem_of_getElem? (i := 157) rfl)
theorem kw_879 : (Jvm.Cond.laysFinal "FrameMachineModel" "FrameMachineModel" "ring" "[I") ∈ lw_tbl := zk_4 (List.mem_of_getElem? (i := 159) rfl)
theorem kw_890 : (Jvm.Cond.methodLink "FrameMachineModel" (290 : Nat) ({ cls := "FrameMachineModel", name := "step", desc := "()Z" } : Jvm.MethodName)) ∈ lw_tbl := zk_4 (List.mem_of_getElem? (i := 170) rfl)
theorem kw_892 : (Jvm.Cond.instanceMethod ({ cls := "FrameMachineModel", name := "step", desc := "()Z" } : Jvm.MethodName)) ∈ lw_tbl := zk_4 (List.mem_of_getElem? (i := 172) rfl)
theorem kw_893 : (Jvm.Cond.code ({ cls := "FrameMachineModel", name := "step", desc := "()Z" } : Jvm.MethodName) prog_12_method_45_code (2 : Nat) (Option.some Jvm.ClassFile.FieldType.boolean)) ∈ lw_tbl := zk_4 (List.mem_of_getElem? (i := 173) rfl)
theorem kw_894 : (Jvm.Cond.methodLink "FrameMachineModel" (284 : Nat) ({ cls := "FrameMachineModel", name := "devices", desc := "()V" } : Jvm.MethodName)) ∈ lw_tbl := zk_4 (List.mem_of_getElem? (i := 174) rfl)
theorem kw_896 : (Jvm.Cond.instanceMethod ({ cls := "FrameMachineModel", name := "devices", desc := "()V" } : Jvm.MethodName)) ∈ lw_tbl := zk_4 (List.mem_of_getElem? (i := 176) rfl)
theorem kw_897 : (Jvm.Cond.code ({ cls := "FrameMachineModel", name := "devices", desc := "()V" } : Jvm.MethodName) prog_12_method_10_code (1 : Nat) (Option.none : Option Jvm.ClassFile.FieldType)) ∈ lw_tbl := zk_4 (List.mem_of_getElem? (i := 177) rfl)
theorem kw_898 : (Jvm.Cond.methodLink "FrameMachineModel" (272 : Nat) ({ cls := "FrameMachineModel", name := "exception", desc := "(III)V" } : Jvm.MethodName)) ∈ lw_tbl := zk_4 (List.mem_of_getElem? (i := 178) rfl)
theorem kw_900 : (Jvm.Cond.instanceMethod ({ cls := "FrameMachineModel", name := "exception", desc := "(III)V" } : Jvm.MethodName)) ∈ lw_tbl := zk_4 (List.mem_of_getElem? (i := 180) rfl)
theorem kw_901 : (Jvm.Cond.code ({ cls := "FrameMachineModel", name := "exception", desc := "(III)V" } : Jvm.MethodName) prog_12_method_43_code (11 : Nat) (Option.none : Option Jvm.ClassFile.FieldType)) ∈ lw_tbl := zk_4 (List.mem_of_getElem? (i := 181) rfl)
theorem kw_902 : (Jvm.Cond.methodLink "FrameMachineModel" (204 : Nat) ({ cls := "FrameMachineModel", name := "packed", desc := "()I" } : Jvm.MethodName)) ∈ lw_tbl := zk_4 (List.mem_of_getElem? (i := 182) rfl)
theorem kw_904 : (Jvm.Cond.instanceMethod ({ cls := "FrameMachineModel", name := "packed", desc := "()I" } : Jvm.MethodName)) ∈ lw_tbl := zk_4 (List.mem_of_getElem? (i := 184) rfl)
theorem kw_905 : (Jvm.Cond.code ({ cls := "FrameMachineModel", name := "packed", desc := "()I" } : Jvm.MethodName) prog_12_method_18_code (1 : Nat) (Option.some Jvm.ClassFile.FieldType.int)) ∈ lw_tbl := zk_4 (List.mem_of_getElem? (i := 185) rfl)
theorem kw_906 : (Jvm.Cond.constant "FrameMachineModel" (118 : Nat) (32768 : Int32)) ∈ lw_tbl := zk_4 (List.mem_of_getElem? (i := 186) rfl)
theorem kw_907 : (Jvm.Cond.methodLink "FrameMachineModel" (140 : Nat) ({ cls := "FrameMachineModel", name := "setAbove", desc := "(I)V" } : Jvm.MethodName)) ∈ lw_tbl := zk_4 (List.mem_of_getElem? (i := 187) rfl)
theorem kw_909 : (Jvm.Cond.instanceMethod ({ cls := "FrameMachineModel", name := "setAbove", desc := "(I)V" } : Jvm.MethodName)) ∈ lw_tbl := zk_4 (List.mem_of_getElem? (i := 189) rfl)
theorem kw_910 : (Jvm.Cond.code ({ cls := "FrameMachineModel", name := "setAbove", desc := "(I)V" } : Jvm.MethodName) prog_12_method_19_code (3 : Nat) (Option.none : Option Jvm.ClassFile.FieldType)) ∈ lw_tbl := zk_4 (List.mem_of_getElem? (i := 190) rfl)
theorem kw_911 : (Jvm.Cond.constantLong "FrameMachineModel" (67 : Nat) (4294967295 : Int64)) ∈ lw_tbl := zk_4 (List.mem_of_getElem? (i := 191) rfl)
theorem kw_912 : (Jvm.Cond.methodLink "FrameMachineModel" (218 : Nat) ({ cls := "FrameMachineModel", name := "push", desc := "(IJ)V" } : Jvm.MethodName)) ∈ lw_tbl := zk_4 (List.mem_of_getElem? (i := 192) rfl)
theorem kw_914 : (Jvm.Cond.instanceMethod ({ cls := "FrameMachineModel", name := "push", desc := "(IJ)V" } : Jvm.MethodName)) ∈ lw_tbl := zk_4 (List.mem_of_getElem? (i := 194) rfl)
theorem kw_915 : (Jvm.Cond.code ({ cls := "FrameMachineModel", name := "push", desc := "(IJ)V" } : Jvm.MethodName) prog_12_method_16_code (4 : Nat) (Option.none : Option Jvm.ClassFile.FieldType)) ∈ lw_tbl := zk_4 (List.mem_of_getElem? (i := 195) rfl)
theorem kw_916 : (Jvm.Cond.methodLink "FrameMachineModel" (83 : Nat) ({ cls := "FrameMachineModel", name := "bytes", desc := "(I)I" } : Jvm.MethodName)) ∈ lw_tbl := zk_4 (List.mem_of_getElem? (i := 196) rfl)
theorem kw_917 : (Jvm.Cond.static ({ cls := "FrameMachineModel", name := "bytes", desc := "(I)I" } : Jvm.MethodName)) ∈ lw_tbl := zk_4 (List.mem_of_getElem? (i := 197) rfl)
theorem kw_918 : (Jvm.Cond.code ({ cls := "FrameMachineModel", name := "bytes", desc := "(I)I" } : Jvm.MethodName) prog_12_method_3_code (1 : Nat) (Option.some Jvm.ClassFile.FieldType.int)) ∈ lw_tbl := zk_4 (List.mem_of_getElem? (i := 198) rfl)
theorem kw_919 : (Jvm.Cond.methodLink "FrameMachineModel" (114 : Nat) ({ cls := "FrameMachineModel", name := "write", desc := "(IIJ)V" } : Jvm.MethodName)) ∈ lw_tbl := zk_4 (List.mem_of_getElem? (i := 199) rfl)
theorem kw_921 : (Jvm.Cond.instanceMethod ({ cls := "FrameMachineModel", name := "write", desc := "(IIJ)V" } : Jvm.MethodName)) ∈ lw_tbl := zk_4 (List.mem_of_getElem? (i := 201) rfl)
theorem kw_922 : (Jvm.Cond.code ({ cls := "FrameMachineModel", name := "write", desc := "(IIJ)V" } : Jvm.MethodName) prog_12_method_13_code (7 : Nat) (Option.none : Option Jvm.ClassFile.FieldType)) ∈ lw_tbl := zk_4 (List.mem_of_getElem? (i := 202) rfl)
theorem kw_923 : (Jvm.Cond.methodLink "FrameMachineModel" (87 : Nat) ({ cls := "FrameMachineModel", name := "allowed", desc := "(IIZ)I" } : Jvm.MethodName)) ∈ lw_tbl := zk_4 (List.mem_of_getElem? (i := 203) rfl)
theorem kw_925 : (Jvm.Cond.instanceMethod ({ cls := "FrameMachineModel", name := "allowed", desc := "(IIZ)I" } : Jvm.MethodName)) ∈ lw_tbl := zk_4 (List.mem_of_getElem? (i := 205) rfl)
theorem kw_926 : (Jvm.Cond.code ({ cls := "FrameMachineModel", name := "allowed", desc := "(IIZ)I" } : Jvm.MethodName) prog_12_method_11_code (7 : Nat) (Option.some Jvm.ClassFile.FieldType.int)) ∈ lw_tbl := zk_4 (List.mem_of_getElem? (i := 206) rfl)
theorem kw_927 : (Jvm.Cond.constantLong "FrameMachineModel" (69 : Nat) (2 : Int64)) ∈ lw_tbl := zk_4 (List.mem_of_getElem? (i := 207) rfl)
theorem kw_928 : (Jvm.Cond.constantLong "FrameMachineModel" (71 : Nat) (1024 : Int64)) ∈ lw_tbl := zk_4 (List.mem_of_getElem? (i := 208) rfl)
theorem kw_929 : (Jvm.Cond.constantLong "FrameMachineModel" (73 : Nat) (61440 : Int64)) ∈ lw_tbl := zk_4 (List.mem_of_getElem? (i := 209) rfl)
theorem kw_930 : (Jvm.Cond.constantLong "FrameMachineModel" (75 : Nat) (61443 : Int64)) ∈ lw_tbl := zk_4 (List.mem_of_getElem? (i := 210) rfl)
theorem kw_931 : (Jvm.Cond.constant "FrameMachineModel" (91 : Nat) (61440 : Int32)) ∈ lw_tbl := zk_4 (List.mem_of_getElem? (i := 211) rfl)
theorem kw_932 : (Jvm.Cond.constantLong "FrameMachineModel" (97 : Nat) (255 : Int64)) ∈ lw_tbl := zk_4 (List.mem_of_getElem? (i := 212) rfl)
theorem kw_933 : (Jvm.Cond.methodLink "FrameMachineModel" (99 : Nat) ({ cls := "FrameMachineModel", name := "setDevice", desc := "(II)V" } : Jvm.MethodName)) ∈ lw_tbl := zk_4 (List.mem_of_getElem? (i := 213) rfl)
theorem kw_935 : (Jvm.Cond.instanceMethod ({ cls := "FrameMachineModel", name := "setDevice", desc := "(II)V" } : Jvm.MethodName)) ∈ lw_tbl := zk_4 (List.mem_of_getElem? (i := 215) rfl)
theorem kw_936 : (Jvm.Cond.code ({ cls := "FrameMachineModel", name := "setDevice", desc := "(II)V" } : Jvm.MethodName) prog_12_method_9_code (3 : Nat) (Option.none : Option Jvm.ClassFile.FieldType)) ∈ lw_tbl := zk_4 (List.mem_of_getElem? (i := 216) rfl)
theorem kw_937 : (Jvm.Cond.methodLink "FrameMachineModel" (106 : Nat) ({ cls := "FrameMachineModel", name := "read", desc := "(II)J" } : Jvm.MethodName)) ∈ lw_tbl := zk_4 (List.mem_of_getElem? (i := 217) rfl)
theorem kw_939 : (Jvm.Cond.instanceMethod ({ cls := "FrameMachineModel", name := "read", desc := "(II)J" } : Jvm.MethodName)) ∈ lw_tbl := zk_4 (List.mem_of_getElem? (i := 219) rfl)
theorem kw_940 : (Jvm.Cond.code ({ cls := "FrameMachineModel", name := "read", desc := "(II)J" } : Jvm.MethodName) prog_12_method_12_code (7 : Nat) (Option.some Jvm.ClassFile.FieldType.long)) ∈ lw_tbl := zk_4 (List.mem_of_getElem? (i := 220) rfl)
theorem kw_941 : (Jvm.Cond.methodLink "FrameMachineModel" (92 : Nat) ({ cls := "FrameMachineModel", name := "device", desc := "(I)I" } : Jvm.MethodName)) ∈ lw_tbl := zk_4 (List.mem_of_getElem? (i := 221) rfl)
theorem kw_943 : (Jvm.Cond.instanceMethod ({ cls := "FrameMachineModel", name := "device", desc := "(I)I" } : Jvm.MethodName)) ∈ lw_tbl := zk_4 (List.mem_of_getElem? (i := 223) rfl)
theorem kw_944 : (Jvm.Cond.code ({ cls := "FrameMachineModel", name := "device", desc := "(I)I" } : Jvm.MethodName) prog_12_method_8_code (3 : Nat) (Option.some Jvm.ClassFile.FieldType.int)) ∈ lw_tbl := zk_4 (List.mem_of_getElem? (i := 224) rfl)
theorem kw_945 : (Jvm.Cond.constantLong "FrameMachineModel" (95 : Nat) (256 : Int64)) ∈ lw_tbl := zk_4 (List.mem_of_getElem? (i := 225) rfl)
theorem kw_946 : (Jvm.Cond.methodLink "FrameMachineModel" (287 : Nat) ({ cls := "FrameMachineModel", name := "instruction", desc := "()V" } : Jvm.MethodName)) ∈ lw_tbl := zk_4 (List.mem_of_getElem? (i := 226) rfl)
theorem kw_948 : (Jvm.Cond.instanceMethod ({ cls := "FrameMachineModel", name := "instruction", desc := "()V" } : Jvm.MethodName)) ∈ lw_tbl := zk_4 (List.mem_of_getElem? (i := 228) rfl)
theorem kw_949 : (Jvm.Cond.code ({ cls := "FrameMachineModel", name := "instruction", desc := "()V" } : Jvm.MethodName) prog_12_method_44_code (9 : Nat) (Option.none : Option Jvm.ClassFile.FieldType)) ∈ lw_tbl := zk_4 (List.mem_of_getElem? (i := 229) rfl)
theorem kw_950 : (Jvm.Cond.methodLink "FrameMachineModel" (110 : Nat) ({ cls := "FrameMachineModel", name := "fetch", desc := "()I" } : Jvm.MethodName)) ∈ lw_tbl := zk_4 (List.mem_of_getElem? (i := 230) rfl)
theorem kw_952 : (Jvm.Cond.instanceMethod ({ cls := "FrameMachineModel", name := "fetch", desc := "()I" } : Jvm.MethodName)) ∈ lw_tbl := zk_4 (List.mem_of_getElem? (i := 232) rfl)
theorem kw_953 : (Jvm.Cond.code ({ cls := "FrameMachineModel", name := "fetch", desc := "()I" } : Jvm.MethodName) prog_12_method_14_code (2 : Nat) (Option.some Jvm.ClassFile.FieldType.int)) ∈ lw_tbl := zk_4 (List.mem_of_getElem? (i := 233) rfl)
theorem kw_954 : (Jvm.Cond.methodLink "FrameMachineModel" (268 : Nat) ({ cls := "FrameMachineModel", name := "legal", desc := "(IIIII)Z" } : Jvm.MethodName)) ∈ lw_tbl := zk_4 (List.mem_of_getElem? (i := 234) rfl)
theorem kw_955 : (Jvm.Cond.static ({ cls := "FrameMachineModel", name := "legal", desc := "(IIIII)Z" } : Jvm.MethodName)) ∈ lw_tbl := zk_4 (List.mem_of_getElem? (i := 235) rfl)
theorem kw_956 : (Jvm.Cond.code ({ cls := "FrameMachineModel", name := "legal", desc := "(IIIII)Z" } : Jvm.MethodName) prog_12_method_35_code (9 : Nat) (Option.some Jvm.ClassFile.FieldType.boolean)) ∈ lw_tbl := zk_4 (List.mem_of_getElem? (i := 236) rfl)
theorem kw_957 : (Jvm.Cond.methodLink "FrameMachineModel" (183 : Nat) ({ cls := "FrameMachineModel", name := "places", desc := "(II)Z" } : Jvm.MethodName)) ∈ lw_tbl := zk_4 (List.mem_of_getElem? (i := 237) rfl)
theorem kw_958 : (Jvm.Cond.static ({ cls := "FrameMachineModel", name := "places", desc := "(II)Z" } : Jvm.MethodName)) ∈ lw_tbl := zk_4 (List.mem_of_getElem? (i := 238) rfl)
theorem kw_959 : (Jvm.Cond.code ({ cls := "FrameMachineModel", name := "places", desc := "(II)Z" } : Jvm.MethodName) prog_12_method_25_code (2 : Nat) (Option.some Jvm.ClassFile.FieldType.boolean)) ∈ lw_tbl := zk_4 (List.mem_of_getElem? (i := 239) rfl)
theorem kw_960 : (Jvm.Cond.methodLink "FrameMachineModel" (186 : Nat) ({ cls := "FrameMachineModel", name := "alterable", desc := "(II)Z" } : Jvm.MethodName)) ∈ lw_tbl := zk_5 (List.mem_of_getElem? (i := 0) rfl)
theorem kw_961 : (Jvm.Cond.static ({ cls := "FrameMachineModel", name := "alterable", desc := "(II)Z" } : Jvm.MethodName)) ∈ lw_tbl := zk_5 (List.mem_of_getElem? (i := 1) rfl)
theorem kw_962 : (Jvm.Cond.code ({ cls := "FrameMachineModel", name := "alterable", desc := "(II)Z" } : Jvm.MethodName) prog_12_method_24_code (2 : Nat) (Option.some Jvm.ClassFile.FieldType.boolean)) ∈ lw_tbl := zk_5 (List.mem_of_getElem? (i := 2) rfl)
theorem kw_963 : (Jvm.Cond.methodLink "FrameMachineModel" (147 : Nat) ({ cls := "FrameMachineModel", name := "any", desc := "(II)Z" } : Jvm.MethodName)) ∈ lw_tbl := zk_5 (List.mem_of_getElem? (i := 3) rfl)
theorem kw_964 : (Jvm.Cond.static ({ cls := "FrameMachineModel", name := "any", desc := "(II)Z" } : Jvm.MethodName)) ∈ lw_tbl := zk_5 (List.mem_of_getElem? (i := 4) rfl)
theorem kw_965 : (Jvm.Cond.code ({ cls := "FrameMachineModel", name := "any", desc := "(II)Z" } : Jvm.MethodName) prog_12_method_22_code (2 : Nat) (Option.some Jvm.ClassFile.FieldType.boolean)) ∈ lw_tbl := zk_5 (List.mem_of_getElem? (i := 5) rfl)
theorem kw_966 : (Jvm.Cond.methodLink "FrameMachineModel" (189 : Nat) ({ cls := "FrameMachineModel", name := "data", desc := "(II)Z" } : Jvm.MethodName)) ∈ lw_tbl := zk_5 (List.mem_of_getElem? (i := 6) rfl)
theorem kw_967 : (Jvm.Cond.static ({ cls := "FrameMachineModel", name := "data", desc := "(II)Z" } : Jvm.MethodName)) ∈ lw_tbl := zk_5 (List.mem_of_getElem? (i := 7) rfl)
theorem kw_968 : (Jvm.Cond.code ({ cls := "FrameMachineModel", name := "data", desc := "(II)Z" } : Jvm.MethodName) prog_12_method_23_code (2 : Nat) (Option.some Jvm.ClassFile.FieldType.boolean)) ∈ lw_tbl := zk_5 (List.mem_of_getElem? (i := 8) rfl)
theorem kw_969 : (Jvm.Cond.methodLink "FrameMachineModel" (275 : Nat) ({ cls := "FrameMachineModel", name := "needsAbove", desc := "(II)Z" } : Jvm.MethodName)) ∈ lw_tbl := zk_5 (List.mem_of_getElem? (i := 9) rfl)
theorem kw_970 : (Jvm.Cond.static ({ cls := "FrameMachineModel", name := "needsAbove", desc := "(II)Z" } : Jvm.MethodName)) ∈ lw_tbl := zk_5 (List.mem_of_getElem? (i := 10) rfl)
theorem kw_971 : (Jvm.Cond.code ({ cls := "FrameMachineModel", name := "needsAbove", desc := "(II)Z" } : Jvm.MethodName) prog_12_method_36_code (2 : Nat) (Option.some Jvm.ClassFile.FieldType.boolean)) ∈ lw_tbl := zk_5 (List.mem_of_getElem? (i := 11) rfl)
theorem kw_972 : (Jvm.Cond.methodLink "FrameMachineModel" (278 : Nat) ({ cls := "FrameMachineModel", name := "does", desc := "(IIIII)V" } : Jvm.MethodName)) ∈ lw_tbl := zk_5 (List.mem_of_getElem? (i := 12) rfl)
theorem kw_974 : (Jvm.Cond.instanceMethod ({ cls := "FrameMachineModel", name := "does", desc := "(IIIII)V" } : Jvm.MethodName)) ∈ lw_tbl := zk_5 (List.mem_of_getElem? (i := 14) rfl)
theorem kw_975 : (Jvm.Cond.code ({ cls := "FrameMachineModel", name := "does", desc := "(IIIII)V" } : Jvm.MethodName) prog_12_method_42_code (6 : Nat) (Option.none : Option Jvm.ClassFile.FieldType)) ∈ lw_tbl := zk_5 (List.mem_of_getElem? (i := 15) rfl)
theorem kw_976 : (Jvm.Cond.methodLink "FrameMachineModel" (239 : Nat) ({ cls := "FrameMachineModel", name := "shifts", desc := "(IIII)V" } : Jvm.MethodName)) ∈ lw_tbl := zk_5 (List.mem_of_getElem? (i := 16) rfl)
theorem kw_978 : (Jvm.Cond.instanceMethod ({ cls := "FrameMachineModel", name := "shifts", desc := "(IIII)V" } : Jvm.MethodName)) ∈ lw_tbl := zk_5 (List.mem_of_getElem? (i := 18) rfl)
theorem kw_979 : (Jvm.Cond.code ({ cls := "FrameMachineModel", name := "shifts", desc := "(IIII)V" } : Jvm.MethodName) prog_12_method_32_code (19 : Nat) (Option.none : Option Jvm.ClassFile.FieldType)) ∈ lw_tbl := zk_5 (List.mem_of_getElem? (i := 19) rfl)
theorem kw_980 : (Jvm.Cond.methodLink "FrameMachineModel" (161 : Nat) ({ cls := "FrameMachineModel", name := "cut", desc := "(JI)J" } : Jvm.MethodName)) ∈ lw_tbl := zk_5 (List.mem_of_getElem? (i := 20) rfl)
theorem kw_981 : (Jvm.Cond.static ({ cls := "FrameMachineModel", name := "cut", desc := "(JI)J" } : Jvm.MethodName)) ∈ lw_tbl := zk_5 (List.mem_of_getElem? (i := 21) rfl)
theorem kw_982 : (Jvm.Cond.code ({ cls := "FrameMachineModel", name := "cut", desc := "(JI)J" } : Jvm.MethodName) prog_12_method_6_code (3 : Nat) (Option.some Jvm.ClassFile.FieldType.long)) ∈ lw_tbl := zk_5 (List.mem_of_getElem? (i := 22) rfl)
theorem kw_983 : (Jvm.Cond.methodLink "FrameMachineModel" (41 : Nat) ({ cls := "FrameMachineModel", name := "whole", desc := "(I)J" } : Jvm.MethodName)) ∈ lw_tbl := zk_5 (List.mem_of_getElem? (i := 23) rfl)
theorem kw_984 : (Jvm.Cond.static ({ cls := "FrameMachineModel", name := "whole", desc := "(I)J" } : Jvm.MethodName)) ∈ lw_tbl := zk_5 (List.mem_of_getElem? (i := 24) rfl)
theorem kw_985 : (Jvm.Cond.code ({ cls := "FrameMachineModel", name := "whole", desc := "(I)J" } : Jvm.MethodName) prog_12_method_5_code (1 : Nat) (Option.some Jvm.ClassFile.FieldType.long)) ∈ lw_tbl := zk_5 (List.mem_of_getElem? (i := 25) rfl)
theorem kw_986 : (Jvm.Cond.methodLink "FrameMachineModel" (144 : Nat) ({ cls := "FrameMachineModel", name := "bits", desc := "(I)I" } : Jvm.MethodName)) ∈ lw_tbl := zk_5 (List.mem_of_getElem? (i := 26) rfl)
theorem kw_987 : (Jvm.Cond.static ({ cls := "FrameMachineModel", name := "bits", desc := "(I)I" } : Jvm.MethodName)) ∈ lw_tbl := zk_5 (List.mem_of_getElem? (i := 27) rfl)
theorem kw_988 : (Jvm.Cond.code ({ cls := "FrameMachineModel", name := "bits", desc := "(I)I" } : Jvm.MethodName) prog_12_method_4_code (1 : Nat) (Option.some Jvm.ClassFile.FieldType.int)) ∈ lw_tbl := zk_5 (List.mem_of_getElem? (i := 28) rfl)
theorem kw_989 : (Jvm.Cond.methodLink "FrameMachineModel" (170 : Nat) ({ cls := "FrameMachineModel", name := "tells", desc := "(JI)V" } : Jvm.MethodName)) ∈ lw_tbl := zk_5 (List.mem_of_getElem? (i := 29) rfl)
theorem kw_991 : (Jvm.Cond.instanceMethod ({ cls := "FrameMachineModel", name := "tells", desc := "(JI)V" } : Jvm.MethodName)) ∈ lw_tbl := zk_5 (List.mem_of_getElem? (i := 31) rfl)
theorem kw_992 : (Jvm.Cond.code ({ cls := "FrameMachineModel", name := "tells", desc := "(JI)V" } : Jvm.MethodName) prog_12_method_21_code (4 : Nat) (Option.none : Option Jvm.ClassFile.FieldType)) ∈ lw_tbl := zk_5 (List.mem_of_getElem? (i := 32) rfl)
theorem kw_993 : (Jvm.Cond.methodLink "FrameMachineModel" (167 : Nat) ({ cls := "FrameMachineModel", name := "setD", desc := "(IIJ)V" } : Jvm.MethodName)) ∈ lw_tbl := zk_5 (List.mem_of_getElem? (i := 33) rfl)
theorem kw_995 : (Jvm.Cond.instanceMethod ({ cls := "FrameMachineModel", name := "setD", desc := "(IIJ)V" } : Jvm.MethodName)) ∈ lw_tbl := zk_5 (List.mem_of_getElem? (i := 35) rfl)
theorem kw_996 : (Jvm.Cond.code ({ cls := "FrameMachineModel", name := "setD", desc := "(IIJ)V" } : Jvm.MethodName) prog_12_method_28_code (5 : Nat) (Option.none : Option Jvm.ClassFile.FieldType)) ∈ lw_tbl := zk_5 (List.mem_of_getElem? (i := 36) rfl)
theorem kw_997 : (Jvm.Cond.constantLong "FrameMachineModel" (165 : Nat) (-1 : Int64)) ∈ lw_tbl := zk_5 (List.mem_of_getElem? (i := 37) rfl)
theorem kw_998 : (Jvm.Cond.methodLink "FrameMachineModel" (243 : Nat) ({ cls := "FrameMachineModel", name := "branches", desc := "(I)V" } : Jvm.MethodName)) ∈ lw_tbl := zk_5 (List.mem_of_getElem? (i := 38) rfl)
theorem kw_1000 : (Jvm.Cond.instanceMethod ({ cls := "FrameMachineModel", name := "branches", desc := "(I)V" } : Jvm.MethodName)) ∈ lw_tbl := zk_5 (List.mem_of_getElem? (i := 40) rfl)
theorem kw_1001 : (Jvm.Cond.code ({ cls := "FrameMachineModel", name := "branches", desc := "(I)V" } : Jvm.MethodName) prog_12_method_39_code (4 : Nat) (Option.none : Option Jvm.ClassFile.FieldType)) ∈ lw_tbl := zk_5 (List.mem_of_getElem? (i := 41) rfl)
theorem kw_1002 : (Jvm.Cond.methodLink "FrameMachineModel" (222 : Nat) ({ cls := "FrameMachineModel", name := "holds", desc := "(I)Z" } : Jvm.MethodName)) ∈ lw_tbl := zk_5 (List.mem_of_getElem? (i := 42) rfl)
theorem kw_1004 : (Jvm.Cond.instanceMethod ({ cls := "FrameMachineModel", name := "holds", desc := "(I)Z" } : Jvm.MethodName)) ∈ lw_tbl := zk_5 (List.mem_of_getElem? (i := 44) rfl)
theorem kw_1005 : (Jvm.Cond.code ({ cls := "FrameMachineModel", name := "holds", desc := "(I)Z" } : Jvm.MethodName) prog_12_method_38_code (4 : Nat) (Option.some Jvm.ClassFile.FieldType.boolean)) ∈ lw_tbl := zk_5 (List.mem_of_getElem? (i := 45) rfl)
theorem kw_1006 : (Jvm.Cond.methodLink "FrameMachineModel" (154 : Nat) ({ cls := "FrameMachineModel", name := "signed", desc := "(JI)I" } : Jvm.MethodName)) ∈ lw_tbl := zk_5 (List.mem_of_getElem? (i := 46) rfl)
theorem kw_1007 : (Jvm.Cond.static ({ cls := "FrameMachineModel", name := "signed", desc := "(JI)I" } : Jvm.MethodName)) ∈ lw_tbl := zk_5 (List.mem_of_getElem? (i := 47) rfl)
theorem kw_1008 : (Jvm.Cond.code ({ cls := "FrameMachineModel", name := "signed", desc := "(JI)I" } : Jvm.MethodName) prog_12_method_7_code (3 : Nat) (Option.some Jvm.ClassFile.FieldType.int)) ∈ lw_tbl := zk_5 (List.mem_of_getElem? (i := 48) rfl)
theorem kw_1009 : (Jvm.Cond.methodLink "FrameMachineModel" (246 : Nat) ({ cls := "FrameMachineModel", name := "returns", desc := "(I)V" } : Jvm.MethodName)) ∈ lw_tbl := zk_5 (List.mem_of_getElem? (i := 49) rfl)
theorem kw_1011 : (Jvm.Cond.instanceMethod ({ cls := "FrameMachineModel", name := "returns", desc := "(I)V" } : Jvm.MethodName)) ∈ lw_tbl := zk_5 (List.mem_of_getElem? (i := 51) rfl)
theorem kw_1012 : (Jvm.Cond.code ({ cls := "FrameMachineModel", name := "returns", desc := "(I)V" } : Jvm.MethodName) prog_12_method_40_code (4 : Nat) (Option.none : Option Jvm.ClassFile.FieldType)) ∈ lw_tbl := zk_5 (List.mem_of_getElem? (i := 52) rfl)
theorem kw_1013 : (Jvm.Cond.methodLink "FrameMachineModel" (226 : Nat) ({ cls := "FrameMachineModel", name := "pop", desc := "(I)I" } : Jvm.MethodName)) ∈ lw_tbl := zk_5 (List.mem_of_getElem? (i := 53) rfl)
theorem kw_1015 : (Jvm.Cond.instanceMethod ({ cls := "FrameMachineModel", name := "pop", desc := "(I)I" } : Jvm.MethodName)) ∈ lw_tbl := zk_5 (List.mem_of_getElem? (i := 55) rfl)
theorem kw_1016 : (Jvm.Cond.code ({ cls := "FrameMachineModel", name := "pop", desc := "(I)I" } : Jvm.MethodName) prog_12_method_17_code (3 : Nat) (Option.some Jvm.ClassFile.FieldType.int)) ∈ lw_tbl := zk_5 (List.mem_of_getElem? (i := 56) rfl)
theorem kw_1017 : (Jvm.Cond.methodLink "FrameMachineModel" (215 : Nat) ({ cls := "FrameMachineModel", name := "setStatus", desc := "(I)V" } : Jvm.MethodName)) ∈ lw_tbl := zk_5 (List.mem_of_getElem? (i := 57) rfl)
theorem kw_1019 : (Jvm.Cond.instanceMethod ({ cls := "FrameMachineModel", name := "setStatus", desc := "(I)V" } : Jvm.MethodName)) ∈ lw_tbl := zk_5 (List.mem_of_getElem? (i := 59) rfl)
theorem kw_1020 : (Jvm.Cond.code ({ cls := "FrameMachineModel", name := "setStatus", desc := "(I)V" } : Jvm.MethodName) prog_12_method_20_code (2 : Nat) (Option.none : Option Jvm.ClassFile.FieldType)) ∈ lw_tbl := zk_5 (List.mem_of_getElem? (i := 60) rfl)
theorem kw_1021 : (Jvm.Cond.methodLink "FrameMachineModel" (249 : Nat) ({ cls := "FrameMachineModel", name := "others", desc := "(IIIII)V" } : Jvm.MethodName)) ∈ lw_tbl := zk_5 (List.mem_of_getElem? (i := 61) rfl)
theorem kw_1023 : (Jvm.Cond.instanceMethod ({ cls := "FrameMachineModel", name := "others", desc := "(IIIII)V" } : Jvm.MethodName)) ∈ lw_tbl := zk_5 (List.mem_of_getElem? (i := 63) rfl)
theorem kw_1024 : (Jvm.Cond.code ({ cls := "FrameMachineModel", name := "others", desc := "(IIIII)V" } : Jvm.MethodName) prog_12_method_41_code (10 : Nat) (Option.none : Option Jvm.ClassFile.FieldType)) ∈ lw_tbl := zk_5 (List.mem_of_getElem? (i := 64) rfl)
theorem kw_1025 : (Jvm.Cond.methodLink "FrameMachineModel" (192 : Nat) ({ cls := "FrameMachineModel", name := "locate", desc := "(III)V" } : Jvm.MethodName)) ∈ lw_tbl := zk_5 (List.mem_of_getElem? (i := 65) rfl)
theorem kw_1027 : (Jvm.Cond.instanceMethod ({ cls := "FrameMachineModel", name := "locate", desc := "(III)V" } : Jvm.MethodName)) ∈ lw_tbl := zk_5 (List.mem_of_getElem? (i := 67) rfl)
theorem kw_1028 : (Jvm.Cond.code ({ cls := "FrameMachineModel", name := "locate", desc := "(III)V" } : Jvm.MethodName) prog_12_method_26_code (7 : Nat) (Option.none : Option Jvm.ClassFile.FieldType)) ∈ lw_tbl := zk_5 (List.mem_of_getElem? (i := 68) rfl)
theorem kw_1029 : (Jvm.Cond.methodLink "FrameMachineModel" (158 : Nat) ({ cls := "FrameMachineModel", name := "fetchLong", desc := "()I" } : Jvm.MethodName)) ∈ lw_tbl := zk_5 (List.mem_of_getElem? (i := 69) rfl)
theorem kw_1031 : (Jvm.Cond.instanceMethod ({ cls := "FrameMachineModel", name := "fetchLong", desc := "()I" } : Jvm.MethodName)) ∈ lw_tbl := zk_5 (List.mem_of_getElem? (i := 71) rfl)
theorem kw_1032 : (Jvm.Cond.code ({ cls := "FrameMachineModel", name := "fetchLong", desc := "()I" } : Jvm.MethodName) prog_12_method_15_code (3 : Nat) (Option.some Jvm.ClassFile.FieldType.int)) ∈ lw_tbl := zk_5 (List.mem_of_getElem? (i := 72) rfl)
theorem kw_1033 : (Jvm.Cond.methodLink "FrameMachineModel" (196 : Nat) ({ cls := "FrameMachineModel", name := "put", desc := "(IIIJ)V" } : Jvm.MethodName)) ∈ lw_tbl := zk_5 (List.mem_of_getElem? (i := 73) rfl)
theorem kw_1035 : (Jvm.Cond.instanceMethod ({ cls := "FrameMachineModel", name := "put", desc := "(IIIJ)V" } : Jvm.MethodName)) ∈ lw_tbl := zk_5 (List.mem_of_getElem? (i := 75) rfl)
theorem kw_1036 : (Jvm.Cond.code ({ cls := "FrameMachineModel", name := "put", desc := "(IIIJ)V" } : Jvm.MethodName) prog_12_method_29_code (6 : Nat) (Option.none : Option Jvm.ClassFile.FieldType)) ∈ lw_tbl := zk_5 (List.mem_of_getElem? (i := 76) rfl)
theorem kw_1037 : (Jvm.Cond.methodLink "FrameMachineModel" (200 : Nat) ({ cls := "FrameMachineModel", name := "operand", desc := "(III)J" } : Jvm.MethodName)) ∈ lw_tbl := zk_5 (List.mem_of_getElem? (i := 77) rfl)
theorem kw_1039 : (Jvm.Cond.instanceMethod ({ cls := "FrameMachineModel", name := "operand", desc := "(III)J" } : Jvm.MethodName)) ∈ lw_tbl := zk_5 (List.mem_of_getElem? (i := 79) rfl)
theorem kw_1040 : (Jvm.Cond.code ({ cls := "FrameMachineModel", name := "operand", desc := "(III)J" } : Jvm.MethodName) prog_12_method_27_code (5 : Nat) (Option.some Jvm.ClassFile.FieldType.long)) ∈ lw_tbl := zk_5 (List.mem_of_getElem? (i := 80) rfl)
theorem kw_1041 : (Jvm.Cond.methodLink "FrameMachineModel" (232 : Nat) ({ cls := "FrameMachineModel", name := "divides", desc := "(IJZ)V" } : Jvm.MethodName)) ∈ lw_tbl := zk_5 (List.mem_of_getElem? (i := 81) rfl)
theorem kw_1043 : (Jvm.Cond.instanceMethod ({ cls := "FrameMachineModel", name := "divides", desc := "(IJZ)V" } : Jvm.MethodName)) ∈ lw_tbl := zk_5 (List.mem_of_getElem? (i := 83) rfl)
theorem kw_1044 : (Jvm.Cond.code ({ cls := "FrameMachineModel", name := "divides", desc := "(IJZ)V" } : Jvm.MethodName) prog_12_method_33_code (14 : Nat) (Option.none : Option Jvm.ClassFile.FieldType)) ∈ lw_tbl := zk_5 (List.mem_of_getElem? (i := 84) rfl)
theorem kw_1045 : (Jvm.Cond.constantLong "FrameMachineModel" (177 : Nat) (-32768 : Int64)) ∈ lw_tbl := zk_5 (List.mem_of_getElem? (i := 85) rfl)
theorem kw_1046 : (Jvm.Cond.constantLong "FrameMachineModel" (179 : Nat) (32767 : Int64)) ∈ lw_tbl := zk_5 (List.mem_of_getElem? (i := 86) rfl)
theorem kw_1047 : (Jvm.Cond.constantLong "FrameMachineModel" (181 : Nat) (65535 : Int64)) ∈ lw_tbl := zk_5 (List.mem_of_getElem? (i := 87) rfl)
theorem kw_1048 : (Jvm.Cond.methodLink "FrameMachineModel" (236 : Nat) ({ cls := "FrameMachineModel", name := "checks", desc := "(IJ)V" } : Jvm.MethodName)) ∈ lw_tbl := zk_5 (List.mem_of_getElem? (i := 88) rfl)
theorem kw_1050 : (Jvm.Cond.instanceMethod ({ cls := "FrameMachineModel", name := "checks", desc := "(IJ)V" } : Jvm.MethodName)) ∈ lw_tbl := zk_5 (List.mem_of_getElem? (i := 90) rfl)
theorem kw_1051 : (Jvm.Cond.code ({ cls := "FrameMachineModel", name := "checks", desc := "(IJ)V" } : Jvm.MethodName) prog_12_method_34_code (5 : Nat) (Option.none : Option Jvm.ClassFile.FieldType)) ∈ lw_tbl := zk_5 (List.mem_of_getElem? (i := 91) rfl)
theorem kw_1052 : (Jvm.Cond.methodLink "FrameMachineModel" (253 : Nat) ({ cls := "FrameMachineModel", name := "reckons", desc := "(IIIII)V" } : Jvm.MethodName)) ∈ lw_tbl := zk_5 (List.mem_of_getElem? (i := 92) rfl)
theorem kw_1054 : (Jvm.Cond.instanceMethod ({ cls := "FrameMachineModel", name := "reckons", desc := "(IIIII)V" } : Jvm.MethodName)) ∈ lw_tbl := zk_5 (List.mem_of_getElem? (i := 94) rfl)
theorem kw_1055 : (Jvm.Cond.code ({ cls := "FrameMachineModel", name := "reckons", desc := "(IIIII)V" } : Jvm.MethodName) prog_12_method_37_code (13 : Nat) (Option.none : Option Jvm.ClassFile.FieldType)) ∈ lw_tbl := zk_5 (List.mem_of_getElem? (i := 95) rfl)
theorem kw_1056 : (Jvm.Cond.methodLink "FrameMachineModel" (207 : Nat) ({ cls := "FrameMachineModel", name := "sum", desc := "(JJI)J" } : Jvm.MethodName)) ∈ lw_tbl := zk_5 (List.mem_of_getElem? (i := 96) rfl)
theorem kw_1058 : (Jvm.Cond.instanceMethod ({ cls := "FrameMachineModel", name := "sum", desc := "(JJI)J" } : Jvm.MethodName)) ∈ lw_tbl := zk_5 (List.mem_of_getElem? (i := 98) rfl)
theorem kw_1059 : (Jvm.Cond.code ({ cls := "FrameMachineModel", name := "sum", desc := "(JJI)J" } : Jvm.MethodName) prog_12_method_30_code (8 : Nat) (Option.some Jvm.ClassFile.FieldType.long)) ∈ lw_tbl := zk_5 (List.mem_of_getElem? (i := 99) rfl)
theorem kw_1060 : (Jvm.Cond.methodLink "FrameMachineModel" (211 : Nat) ({ cls := "FrameMachineModel", name := "difference", desc := "(JJIZ)J" } : Jvm.MethodName)) ∈ lw_tbl := zk_5 (List.mem_of_getElem? (i := 100) rfl)
theorem kw_1062 : (Jvm.Cond.instanceMethod ({ cls := "FrameMachineModel", name := "difference", desc := "(JJIZ)J" } : Jvm.MethodName)) ∈ lw_tbl := zk_5 (List.mem_of_getElem? (i := 102) rfl)
theorem kw_1063 : (Jvm.Cond.code ({ cls := "FrameMachineModel", name := "difference", desc := "(JJIZ)J" } : Jvm.MethodName) prog_12_method_31_code (9 : Nat) (Option.some Jvm.ClassFile.FieldType.long)) ∈ lw_tbl := zk_5 (List.mem_of_getElem? (i := 103) rfl)
theorem kw_1076 : (Jvm.Cond.methodLink "FrameMachineModel" (294 : Nat) ({ cls := "FrameMachineModel", name := "isWord", desc := "(I)Z" } : Jvm.MethodName)) ∈ lw_tbl := zk_5 (List.mem_of_getElem? (i := 116) rfl)
theorem kw_1077 : (Jvm.Cond.static ({ cls := "FrameMachineModel", name := "isWord", desc := "(I)Z" } : Jvm.MethodName)) ∈ lw_tbl := zk_5 (List.mem_of_getElem? (i := 117) rfl)
theorem kw_1078 : (Jvm.Cond.code ({ cls := "FrameMachineModel", name := "isWord", desc := "(I)Z" } : Jvm.MethodName) prog_12_method_49_code (1 : Nat) (Option.some Jvm.ClassFile.FieldType.boolean)) ∈ lw_tbl := zk_5 (List.mem_of_getElem? (i := 118) rfl)
theorem kw_1079 : (Jvm.Cond.constant "FrameMachineModel" (297 : Nat) (65535 : Int32)) ∈ lw_tbl := zk_5 (List.mem_of_getElem? (i := 119) rfl)
theorem ksel_0 : (Jvm.Cond.selects "FrameMachine$Bus" ({ cls := "FrameMachine$Bus", name := "fails", desc := "(IIZ)Z" } : Jvm.MethodName) ({ cls := "FrameMachine$Bus", name := "fails", desc := "(IIZ)Z" } : Jvm.MethodName)) ∈ lw_tbl := List.mem_append_left _ (List.mem_of_getElem? (i := 0) (by decide +kernel))
theorem ksel_2 : (Jvm.Cond.selects "FrameMachine$Devices" ({ cls := "FrameMachine$Devices", name := "stepTimer", desc := "()V" } : Jvm.MethodName) ({ cls := "FrameMachine$Devices", name := "stepTimer", desc := "()V" } : Jvm.MethodName)) ∈ lw_tbl := List.mem_append_left _ (List.mem_of_getElem? (i := 2) (by decide +kernel))
theorem ksel_3 : (Jvm.Cond.selects "FrameMachine$Devices" ({ cls := "FrameMachine$Devices", name := "stepLine", desc := "()V" } : Jvm.MethodName) ({ cls := "FrameMachine$Devices", name := "stepLine", desc := "()V" } : Jvm.MethodName)) ∈ lw_tbl := List.mem_append_left _ (List.mem_of_getElem? (i := 3) (by decide +kernel))
theorem ksel_4 : (Jvm.Cond.selects "FrameMachine$Exceptions" ({ cls := "FrameMachine$Exceptions", name := "enter", desc := "(III)V" } : Jvm.MethodName) ({ cls := "FrameMachine$Exceptions", name := "enter", desc := "(III)V" } : Jvm.MethodName)) ∈ lw_tbl := List.mem_append_left _ (List.mem_of_getElem? (i := 4) (by decide +kernel))
theorem ksel_5 : (Jvm.Cond.selects "FrameMachine$Exceptions" ({ cls := "FrameMachine$Exceptions", name := "note", desc := "(I)V" } : Jvm.MethodName) ({ cls := "FrameMachine$Exceptions", name := "note", desc := "(I)V" } : Jvm.MethodName)) ∈ lw_tbl := List.mem_append_left _ (List.mem_of_getElem? (i := 5) (by decide +kernel))
theorem ksel_6 : (Jvm.Cond.selects "FrameMachine$Processor" ({ cls := "FrameMachine$Processor", name := "begin", desc := "()V" } : Jvm.MethodName) ({ cls := "FrameMachine$Processor", name := "begin", desc := "()V" } : Jvm.MethodName)) ∈ lw_tbl := List.mem_append_left _ (List.mem_of_getElem? (i := 6) (by decide +kernel))
theorem ksel_7 : (Jvm.Cond.selects "FrameMachine$Instruction" ({ cls := "FrameMachine$Instruction", name := "kind", desc := "()I" } : Jvm.MethodName) ({ cls := "FrameMachine$Instruction", name := "kind", desc := "()I" } : Jvm.MethodName)) ∈ lw_tbl := List.mem_append_left _ (List.mem_of_getElem? (i := 7) (by decide +kernel))
theorem ksel_8 : (Jvm.Cond.selects "FrameMachine$Processor" ({ cls := "FrameMachine$Processor", name := "goesOn", desc := "()Z" } : Jvm.MethodName) ({ cls := "FrameMachine$Processor", name := "goesOn", desc := "()Z" } : Jvm.MethodName)) ∈ lw_tbl := List.mem_append_left _ (List.mem_of_getElem? (i := 8) (by decide +kernel))
theorem ksel_9 : (Jvm.Cond.selects "FrameMachine$Processor" ({ cls := "FrameMachine$Processor", name := "takeOperand", desc := "()V" } : Jvm.MethodName) ({ cls := "FrameMachine$Processor", name := "takeOperand", desc := "()V" } : Jvm.MethodName)) ∈ lw_tbl := List.mem_append_left _ (List.mem_of_getElem? (i := 9) (by decide +kernel))
theorem ksel_10 : (Jvm.Cond.selects "FrameMachine$Operand" ({ cls := "FrameMachine$Operand", name := "stride", desc := "()I" } : Jvm.MethodName) ({ cls := "FrameMachine$Operand", name := "stride", desc := "()I" } : Jvm.MethodName)) ∈ lw_tbl := List.mem_append_left _ (List.mem_of_getElem? (i := 10) (by decide +kernel))
theorem ksel_11 : (Jvm.Cond.selects "FrameMachine$Processor" ({ cls := "FrameMachine$Processor", name := "execute", desc := "()V" } : Jvm.MethodName) ({ cls := "FrameMachine$Processor", name := "execute", desc := "()V" } : Jvm.MethodName)) ∈ lw_tbl := List.mem_append_left _ (List.mem_of_getElem? (i := 11) (by decide +kernel))
theorem ksel_12 : (Jvm.Cond.selects "FrameMachine$Processor" ({ cls := "FrameMachine$Processor", name := "putMarked", desc := "(I)V" } : Jvm.MethodName) ({ cls := "FrameMachine$Processor", name := "putMarked", desc := "(I)V" } : Jvm.MethodName)) ∈ lw_tbl := List.mem_append_left _ (List.mem_of_getElem? (i := 12) (by decide +kernel))
theorem ksel_13 : (Jvm.Cond.selects "FrameMachine$Processor" ({ cls := "FrameMachine$Processor", name := "put", desc := "(I)V" } : Jvm.MethodName) ({ cls := "FrameMachine$Processor", name := "put", desc := "(I)V" } : Jvm.MethodName)) ∈ lw_tbl := List.mem_append_left _ (List.mem_of_getElem? (i := 13) (by decide +kernel))
theorem ksel_14 : (Jvm.Cond.selects "FrameMachine$Arithmetic" ({ cls := "FrameMachine$Arithmetic", name := "markSign", desc := "(II)V" } : Jvm.MethodName) ({ cls := "FrameMachine$Arithmetic", name := "markSign", desc := "(II)V" } : Jvm.MethodName)) ∈ lw_tbl := List.mem_append_left _ (List.mem_of_getElem? (i := 14) (by decide +kernel))
theorem ksel_15 : (Jvm.Cond.selects "FrameMachine$Processor" ({ cls := "FrameMachine$Processor", name := "storeMarked", desc := "(I)V" } : Jvm.MethodName) ({ cls := "FrameMachine$Processor", name := "storeMarked", desc := "(I)V" } : Jvm.MethodName)) ∈ lw_tbl := List.mem_append_left _ (List.mem_of_getElem? (i := 15) (by decide +kernel))
theorem ksel_16 : (Jvm.Cond.selects "FrameMachine$Processor" ({ cls := "FrameMachine$Processor", name := "shift", desc := "(I)V" } : Jvm.MethodName) ({ cls := "FrameMachine$Processor", name := "shift", desc := "(I)V" } : Jvm.MethodName)) ∈ lw_tbl := List.mem_append_left _ (List.mem_of_getElem? (i := 16) (by decide +kernel))
theorem ksel_17 : (Jvm.Cond.selects "FrameMachine$Arithmetic" ({ cls := "FrameMachine$Arithmetic", name := "onceLeft", desc := "(IIZ)I" } : Jvm.MethodName) ({ cls := "FrameMachine$Arithmetic", name := "onceLeft", desc := "(IIZ)I" } : Jvm.MethodName)) ∈ lw_tbl := List.mem_append_left _ (List.mem_of_getElem? (i := 17) (by decide +kernel))
theorem ksel_18 : (Jvm.Cond.selects "FrameMachine$Processor" ({ cls := "FrameMachine$Processor", name := "multiply", desc := "(II)V" } : Jvm.MethodName) ({ cls := "FrameMachine$Processor", name := "multiply", desc := "(II)V" } : Jvm.MethodName)) ∈ lw_tbl := List.mem_append_left _ (List.mem_of_getElem? (i := 18) (by decide +kernel))
theorem ksel_19 : (Jvm.Cond.selects "FrameMachine$Processor" ({ cls := "FrameMachine$Processor", name := "divide", desc := "(JJZ)V" } : Jvm.MethodName) ({ cls := "FrameMachine$Processor", name := "divide", desc := "(JJZ)V" } : Jvm.MethodName)) ∈ lw_tbl := List.mem_append_left _ (List.mem_of_getElem? (i := 19) (by decide +kernel))
theorem ksel_20 : (Jvm.Cond.selects "FrameMachine$Processor" ({ cls := "FrameMachine$Processor", name := "branch", desc := "()V" } : Jvm.MethodName) ({ cls := "FrameMachine$Processor", name := "branch", desc := "()V" } : Jvm.MethodName)) ∈ lw_tbl := List.mem_append_left _ (List.mem_of_getElem? (i := 20) (by decide +kernel))
theorem ksel_21 : (Jvm.Cond.selects "FrameMachine$Processor" ({ cls := "FrameMachine$Processor", name := "call", desc := "(I)V" } : Jvm.MethodName) ({ cls := "FrameMachine$Processor", name := "call", desc := "(I)V" } : Jvm.MethodName)) ∈ lw_tbl := List.mem_append_left _ (List.mem_of_getElem? (i := 21) (by decide +kernel))
theorem ksel_22 : (Jvm.Cond.selects "FrameMachine$Processor" ({ cls := "FrameMachine$Processor", name := "control", desc := "()V" } : Jvm.MethodName) ({ cls := "FrameMachine$Processor", name := "control", desc := "()V" } : Jvm.MethodName)) ∈ lw_tbl := List.mem_append_left _ (List.mem_of_getElem? (i := 22) (by decide +kernel))
theorem ksel_23 : (Jvm.Cond.selects "FrameMachine$Processor" ({ cls := "FrameMachine$Processor", name := "comeBack", desc := "()V" } : Jvm.MethodName) ({ cls := "FrameMachine$Processor", name := "comeBack", desc := "()V" } : Jvm.MethodName)) ∈ lw_tbl := List.mem_append_left _ (List.mem_of_getElem? (i := 23) (by decide +kernel))
theorem ksel_24 : (Jvm.Cond.selects "FrameMachine$Processor" ({ cls := "FrameMachine$Processor", name := "comeBackFromException", desc := "()V" } : Jvm.MethodName) ({ cls := "FrameMachine$Processor", name := "comeBackFromException", desc := "()V" } : Jvm.MethodName)) ∈ lw_tbl := List.mem_append_left _ (List.mem_of_getElem? (i := 24) (by decide +kernel))
theorem ksel_25 : (Jvm.Cond.selects "FrameMachine$Processor" ({ cls := "FrameMachine$Processor", name := "stop", desc := "()V" } : Jvm.MethodName) ({ cls := "FrameMachine$Processor", name := "stop", desc := "()V" } : Jvm.MethodName)) ∈ lw_tbl := List.mem_append_left _ (List.mem_of_getElem? (i := 25) (by decide +kernel))
theorem ksel_26 : (Jvm.Cond.selects "FrameMachine$Processor" ({ cls := "FrameMachine$Processor", name := "exchangeOther", desc := "()V" } : Jvm.MethodName) ({ cls := "FrameMachine$Processor", name := "exchangeOther", desc := "()V" } : Jvm.MethodName)) ∈ lw_tbl := List.mem_append_left _ (List.mem_of_getElem? (i := 26) (by decide +kernel))
theorem ksel_27 : (Jvm.Cond.selects "FrameMachine$Processor" ({ cls := "FrameMachine$Processor", name := "check", desc := "(II)V" } : Jvm.MethodName) ({ cls := "FrameMachine$Processor", name := "check", desc := "(II)V" } : Jvm.MethodName)) ∈ lw_tbl := List.mem_append_left _ (List.mem_of_getElem? (i := 27) (by decide +kernel))
theorem ksel_28 : (Jvm.Cond.selects "FrameMachine$Processor" ({ cls := "FrameMachine$Processor", name := "finish", desc := "(Z)V" } : Jvm.MethodName) ({ cls := "FrameMachine$Processor", name := "finish", desc := "(Z)V" } : Jvm.MethodName)) ∈ lw_tbl := List.mem_append_left _ (List.mem_of_getElem? (i := 28) (by decide +kernel))
theorem ksel_29 : (Jvm.Cond.selects "FrameMachineModel" ({ cls := "FrameMachineModel", name := "step", desc := "()Z" } : Jvm.MethodName) ({ cls := "FrameMachineModel", name := "step", desc := "()Z" } : Jvm.MethodName)) ∈ lw_tbl := List.mem_append_left _ (List.mem_of_getElem? (i := 29) (by decide +kernel))
theorem ksel_30 : (Jvm.Cond.selects "FrameMachineModel" ({ cls := "FrameMachineModel", name := "devices", desc := "()V" } : Jvm.MethodName) ({ cls := "FrameMachineModel", name := "devices", desc := "()V" } : Jvm.MethodName)) ∈ lw_tbl := List.mem_append_left _ (List.mem_of_getElem? (i := 30) (by decide +kernel))
theorem ksel_31 : (Jvm.Cond.selects "FrameMachineModel" ({ cls := "FrameMachineModel", name := "exception", desc := "(III)V" } : Jvm.MethodName) ({ cls := "FrameMachineModel", name := "exception", desc := "(III)V" } : Jvm.MethodName)) ∈ lw_tbl := List.mem_append_left _ (List.mem_of_getElem? (i := 31) (by decide +kernel))
theorem ksel_32 : (Jvm.Cond.selects "FrameMachineModel" ({ cls := "FrameMachineModel", name := "packed", desc := "()I" } : Jvm.MethodName) ({ cls := "FrameMachineModel", name := "packed", desc := "()I" } : Jvm.MethodName)) ∈ lw_tbl := List.mem_append_left _ (List.mem_of_getElem? (i := 32) (by decide +kernel))
theorem ksel_33 : (Jvm.Cond.selects "FrameMachineModel" ({ cls := "FrameMachineModel", name := "setAbove", desc := "(I)V" } : Jvm.MethodName) ({ cls := "FrameMachineModel", name := "setAbove", desc := "(I)V" } : Jvm.MethodName)) ∈ lw_tbl := List.mem_append_left _ (List.mem_of_getElem? (i := 33) (by decide +kernel))
theorem ksel_34 : (Jvm.Cond.selects "FrameMachineModel" ({ cls := "FrameMachineModel", name := "push", desc := "(IJ)V" } : Jvm.MethodName) ({ cls := "FrameMachineModel", name := "push", desc := "(IJ)V" } : Jvm.MethodName)) ∈ lw_tbl := List.mem_append_left _ (List.mem_of_getElem? (i := 34) (by decide +kernel))
theorem ksel_35 : (Jvm.Cond.selects "FrameMachineModel" ({ cls := "FrameMachineModel", name := "write", desc := "(IIJ)V" } : Jvm.MethodName) ({ cls := "FrameMachineModel", name := "write", desc := "(IIJ)V" } : Jvm.MethodName)) ∈ lw_tbl := List.mem_append_left _ (List.mem_of_getElem? (i := 35) (by decide +kernel))
theorem ksel_36 : (Jvm.Cond.selects "FrameMachineModel" ({ cls := "FrameMachineModel", name := "allowed", desc := "(IIZ)I" } : Jvm.MethodName) ({ cls := "FrameMachineModel", name := "allowed", desc := "(IIZ)I" } : Jvm.MethodName)) ∈ lw_tbl := List.mem_append_left _ (List.mem_of_getElem? (i := 36) (by decide +kernel))
theorem ksel_37 : (Jvm.Cond.selects "FrameMachineModel" ({ cls := "FrameMachineModel", name := "setDevice", desc := "(II)V" } : Jvm.MethodName) ({ cls := "FrameMachineModel", name := "setDevice", desc := "(II)V" } : Jvm.MethodName)) ∈ lw_tbl := List.mem_append_left _ (List.mem_of_getElem? (i := 37) (by decide +kernel))
theorem ksel_38 : (Jvm.Cond.selects "FrameMachineModel" ({ cls := "FrameMachineModel", name := "read", desc := "(II)J" } : Jvm.MethodName) ({ cls := "FrameMachineModel", name := "read", desc := "(II)J" } : Jvm.MethodName)) ∈ lw_tbl := List.mem_append_left _ (List.mem_of_getElem? (i := 38) (by decide +kernel))
theorem ksel_39 : (Jvm.Cond.selects "FrameMachineModel" ({ cls := "FrameMachineModel", name := "device", desc := "(I)I" } : Jvm.MethodName) ({ cls := "FrameMachineModel", name := "device", desc := "(I)I" } : Jvm.MethodName)) ∈ lw_tbl := List.mem_append_left _ (List.mem_of_getElem? (i := 39) (by decide +kernel))
theorem ksel_40 : (Jvm.Cond.selects "FrameMachineModel" ({ cls := "FrameMachineModel", name := "instruction", desc := "()V" } : Jvm.MethodName) ({ cls := "FrameMachineModel", name := "instruction", desc := "()V" } : Jvm.MethodName)) ∈ lw_tbl := List.mem_append_left _ (List.mem_of_getElem? (i := 40) (by decide +kernel))
theorem ksel_41 : (Jvm.Cond.selects "FrameMachineModel" ({ cls := "FrameMachineModel", name := "fetch", desc := "()I" } : Jvm.MethodName) ({ cls := "FrameMachineModel", name := "fetch", desc := "()I" } : Jvm.MethodName)) ∈ lw_tbl := List.mem_append_left _ (List.mem_of_getElem? (i := 41) (by decide +kernel))
theorem ksel_42 : (Jvm.Cond.selects "FrameMachineModel" ({ cls := "FrameMachineModel", name := "does", desc := "(IIIII)V" } : Jvm.MethodName) ({ cls := "FrameMachineModel", name := "does", desc := "(IIIII)V" } : Jvm.MethodName)) ∈ lw_tbl := List.mem_append_left _ (List.mem_of_getElem? (i := 42) (by decide +kernel))
theorem ksel_43 : (Jvm.Cond.selects "FrameMachineModel" ({ cls := "FrameMachineModel", name := "shifts", desc := "(IIII)V" } : Jvm.MethodName) ({ cls := "FrameMachineModel", name := "shifts", desc := "(IIII)V" } : Jvm.MethodName)) ∈ lw_tbl := List.mem_append_left _ (List.mem_of_getElem? (i := 43) (by decide +kernel))
theorem ksel_44 : (Jvm.Cond.selects "FrameMachineModel" ({ cls := "FrameMachineModel", name := "tells", desc := "(JI)V" } : Jvm.MethodName) ({ cls := "FrameMachineModel", name := "tells", desc := "(JI)V" } : Jvm.MethodName)) ∈ lw_tbl := List.mem_append_left _ (List.mem_of_getElem? (i := 44) (by decide +kernel))
theorem ksel_45 : (Jvm.Cond.selects "FrameMachineModel" ({ cls := "FrameMachineModel", name := "setD", desc := "(IIJ)V" } : Jvm.MethodName) ({ cls := "FrameMachineModel", name := "setD", desc := "(IIJ)V" } : Jvm.MethodName)) ∈ lw_tbl := List.mem_append_left _ (List.mem_of_getElem? (i := 45) (by decide +kernel))
theorem ksel_46 : (Jvm.Cond.selects "FrameMachineModel" ({ cls := "FrameMachineModel", name := "branches", desc := "(I)V" } : Jvm.MethodName) ({ cls := "FrameMachineModel", name := "branches", desc := "(I)V" } : Jvm.MethodName)) ∈ lw_tbl := List.mem_append_left _ (List.mem_of_getElem? (i := 46) (by decide +kernel))
theorem ksel_47 : (Jvm.Cond.selects "FrameMachineModel" ({ cls := "FrameMachineModel", name := "holds", desc := "(I)Z" } : Jvm.MethodName) ({ cls := "FrameMachineModel", name := "holds", desc := "(I)Z" } : Jvm.MethodName)) ∈ lw_tbl := List.mem_append_left _ (List.mem_of_getElem? (i := 47) (by decide +kernel))
theorem ksel_48 : (Jvm.Cond.selects "FrameMachineModel" ({ cls := "FrameMachineModel", name := "returns", desc := "(I)V" } : Jvm.MethodName) ({ cls := "FrameMachineModel", name := "returns", desc := "(I)V" } : Jvm.MethodName)) ∈ lw_tbl := List.mem_append_left _ (List.mem_of_getElem? (i := 48) (by decide +kernel))
theorem ksel_49 : (Jvm.Cond.selects "FrameMachineModel" ({ cls := "FrameMachineModel", name := "pop", desc := "(I)I" } : Jvm.MethodName) ({ cls := "FrameMachineModel", name := "pop", desc := "(I)I" } : Jvm.MethodName)) ∈ lw_tbl := List.mem_append_left _ (List.mem_of_getElem? (i := 49) (by decide +kernel))
theorem ksel_50 : (Jvm.Cond.selects "FrameMachineModel" ({ cls := "FrameMachineModel", name := "setStatus", desc := "(I)V" } : Jvm.MethodName) ({ cls := "FrameMachineModel", name := "setStatus", desc := "(I)V" } : Jvm.MethodName)) ∈ lw_tbl := List.mem_append_left _ (List.mem_of_getElem? (i := 50) (by decide +kernel))
theorem ksel_51 : (Jvm.Cond.selects "FrameMachineModel" ({ cls := "FrameMachineModel", name := "others", desc := "(IIIII)V" } : Jvm.MethodName) ({ cls := "FrameMachineModel", name := "others", desc := "(IIIII)V" } : Jvm.MethodName)) ∈ lw_tbl := List.mem_append_left _ (List.mem_of_getElem? (i := 51) (by decide +kernel))
theorem ksel_52 : (Jvm.Cond.selects "FrameMachineModel" ({ cls := "FrameMachineModel", name := "locate", desc := "(III)V" } : Jvm.MethodName) ({ cls := "FrameMachineModel", name := "locate", desc := "(III)V" } : Jvm.MethodName)) ∈ lw_tbl := List.mem_append_left _ (List.mem_of_getElem? (i := 52) (by decide +kernel))
theorem ksel_53 : (Jvm.Cond.selects "FrameMachineModel" ({ cls := "FrameMachineModel", name := "fetchLong", desc := "()I" } : Jvm.MethodName) ({ cls := "FrameMachineModel", name := "fetchLong", desc := "()I" } : Jvm.MethodName)) ∈ lw_tbl := List.mem_append_left _ (List.mem_of_getElem? (i := 53) (by decide +kernel))
theorem ksel_54 : (Jvm.Cond.selects "FrameMachineModel" ({ cls := "FrameMachineModel", name := "put", desc := "(IIIJ)V" } : Jvm.MethodName) ({ cls := "FrameMachineModel", name := "put", desc := "(IIIJ)V" } : Jvm.MethodName)) ∈ lw_tbl := List.mem_append_left _ (List.mem_of_getElem? (i := 54) (by decide +kernel))
theorem ksel_55 : (Jvm.Cond.selects "FrameMachineModel" ({ cls := "FrameMachineModel", name := "operand", desc := "(III)J" } : Jvm.MethodName) ({ cls := "FrameMachineModel", name := "operand", desc := "(III)J" } : Jvm.MethodName)) ∈ lw_tbl := List.mem_append_left _ (List.mem_of_getElem? (i := 55) (by decide +kernel))
theorem ksel_56 : (Jvm.Cond.selects "FrameMachineModel" ({ cls := "FrameMachineModel", name := "divides", desc := "(IJZ)V" } : Jvm.MethodName) ({ cls := "FrameMachineModel", name := "divides", desc := "(IJZ)V" } : Jvm.MethodName)) ∈ lw_tbl := List.mem_append_left _ (List.mem_of_getElem? (i := 56) (by decide +kernel))
theorem ksel_57 : (Jvm.Cond.selects "FrameMachineModel" ({ cls := "FrameMachineModel", name := "checks", desc := "(IJ)V" } : Jvm.MethodName) ({ cls := "FrameMachineModel", name := "checks", desc := "(IJ)V" } : Jvm.MethodName)) ∈ lw_tbl := List.mem_append_left _ (List.mem_of_getElem? (i := 57) (by decide +kernel))
theorem ksel_58 : (Jvm.Cond.selects "FrameMachineModel" ({ cls := "FrameMachineModel", name := "reckons", desc := "(IIIII)V" } : Jvm.MethodName) ({ cls := "FrameMachineModel", name := "reckons", desc := "(IIIII)V" } : Jvm.MethodName)) ∈ lw_tbl := List.mem_append_left _ (List.mem_of_getElem? (i := 58) (by decide +kernel))
theorem ksel_59 : (Jvm.Cond.selects "FrameMachineModel" ({ cls := "FrameMachineModel", name := "sum", desc := "(JJI)J" } : Jvm.MethodName) ({ cls := "FrameMachineModel", name := "sum", desc := "(JJI)J" } : Jvm.MethodName)) ∈ lw_tbl := List.mem_append_left _ (List.mem_of_getElem? (i := 59) (by decide +kernel))
theorem ksel_60 : (Jvm.Cond.selects "FrameMachineModel" ({ cls := "FrameMachineModel", name := "difference", desc := "(JJIZ)J" } : Jvm.MethodName) ({ cls := "FrameMachineModel", name := "difference", desc := "(JJIZ)J" } : Jvm.MethodName)) ∈ lw_tbl := List.mem_append_left _ (List.mem_of_getElem? (i := 60) (by decide +kernel))
def zT_F : u_T := fun k => match k with
  | 0 => ("FrameMachine", "devices", "LFrameMachine$Devices;", true)
  | 1 => ("FrameMachine", "bus", "LFrameMachine$Bus;", true)
  | 2 => ("FrameMachine", "registers", "LFrameMachine$Registers;", true)
  | 3 => ("FrameMachine", "exceptions", "LFrameMachine$Exceptions;", true)
  | _ => ("FrameMachine", "processor", "LFrameMachine$Processor;", true)
def zt_F : Nat → FieldType := fun k => match k with
  | 0 => (.object "FrameMachine$Devices")
  | 1 => (.object "FrameMachine$Bus")
  | 2 => (.object "FrameMachine$Registers")
  | 3 => (.object "FrameMachine$Exceptions")
  | _ => (.object "FrameMachine$Processor")
theorem zn_F : ∀ a, a < 5 → ∀ b, b < 5 → a ≠ b → (zT_F a).2.1 ≠ (zT_F b).2.1 := by decide +kernel
theorem zto_F : ∀ k, k < 5 → parseFieldDescriptor (zT_F k).2.2.1 = some (zt_F k) := by decide +kernel
def zT_D : u_T := fun k => match k with
  | 0 => ("FrameMachine$Devices", "reload", "I", false)
  | 1 => ("FrameMachine$Devices", "count", "I", false)
  | 2 => ("FrameMachine$Devices", "runs", "Z", false)
  | 3 => ("FrameMachine$Devices", "due", "Z", false)
  | 4 => ("FrameMachine$Devices", "came", "Z", false)
  | 5 => ("FrameMachine$Devices", "cameByte", "I", false)
  | 6 => ("FrameMachine$Devices", "lost", "Z", false)
  | 7 => ("FrameMachine$Devices", "stepsToSend", "I", false)
  | 8 => ("FrameMachine$Devices", "sendingByte", "I", false)
  | 9 => ("FrameMachine$Devices", "sentCount", "I", false)
  | _ => ("FrameMachine$Devices", "sent", "[I", true)
def zt_D : Nat → FieldType := fun k => match k with
  | 0 => .int
  | 1 => .int
  | 2 => .boolean
  | 3 => .boolean
  | 4 => .boolean
  | 5 => .int
  | 6 => .boolean
  | 7 => .int
  | 8 => .int
  | 9 => .int
  | _ => (.array .int)
theorem zn_D : ∀ a, a < 11 → ∀ b, b < 11 → a ≠ b → (zT_D a).2.1 ≠ (zT_D b).2.1 := by decide +kernel
theorem zto_D : ∀ k, k < 11 → parseFieldDescriptor (zT_D k).2.2.1 = some (zt_D k) := by decide +kernel
def zT_B : u_T := fun k => match k with
  | 0 => ("FrameMachine$Bus", "memory", "[B", true)
  | 1 => ("FrameMachine$Bus", "devices", "LFrameMachine$Devices;", true)
  | 2 => ("FrameMachine$Bus", "fault", "I", false)
  | 3 => ("FrameMachine$Bus", "faultAddress", "I", false)
  | _ => ("FrameMachine$Bus", "faultReading", "Z", false)
def zt_B : Nat → FieldType := fun k => match k with
  | 0 => (.array .byte)
  | 1 => (.object "FrameMachine$Devices")
  | 2 => .int
  | 3 => .int
  | _ => .boolean
theorem zn_B : ∀ a, a < 5 → ∀ b, b < 5 → a ≠ b → (zT_B a).2.1 ≠ (zT_B b).2.1 := by decide +kernel
theorem zto_B : ∀ k, k < 5 → parseFieldDescriptor (zT_B k).2.2.1 = some (zt_B k) := by decide +kernel
def zT_G : u_T := fun k => match k with
  | 0 => ("FrameMachine$Registers", "data", "[I", true)
  | 1 => ("FrameMachine$Registers", "address", "[I", true)
  | 2 => ("FrameMachine$Registers", "other", "I", false)
  | 3 => ("FrameMachine$Registers", "pc", "I", false)
  | _ => ("FrameMachine$Registers", "statusWord", "I", false)
def zt_G : Nat → FieldType := fun k => match k with
  | 0 => (.array .int)
  | 1 => (.array .int)
  | 2 => .int
  | 3 => .int
  | _ => .int
theorem zn_G : ∀ a, a < 5 → ∀ b, b < 5 → a ≠ b → (zT_G a).2.1 ≠ (zT_G b).2.1 := by decide +kernel
theorem zto_G : ∀ k, k < 5 → parseFieldDescriptor (zT_G k).2.2.1 = some (zt_G k) := by decide +kernel
def zT_Q : u_T := fun k => match k with
  | 0 => ("FrameMachine$Pointers", "bus", "LFrameMachine$Bus;", true)
  | _ => ("FrameMachine$Pointers", "registers", "LFrameMachine$Registers;", true)
def zt_Q : Nat → FieldType := fun k => match k with
  | 0 => (.object "FrameMachine$Bus")
  | _ => (.object "FrameMachine$Registers")
theorem zn_Q : ∀ a, a < 2 → ∀ b, b < 2 → a ≠ b → (zT_Q a).2.1 ≠ (zT_Q b).2.1 := by decide +kernel
theorem zto_Q : ∀ k, k < 2 → parseFieldDescriptor (zT_Q k).2.2.1 = some (zt_Q k) := by decide +kernel
def zT_E : u_T := fun k => match k with
  | 0 => ("FrameMachine$Exceptions", "bus", "LFrameMachine$Bus;", true)
  | 1 => ("FrameMachine$Exceptions", "registers", "LFrameMachine$Registers;", true)
  | 2 => ("FrameMachine$Exceptions", "pointers", "LFrameMachine$Pointers;", true)
  | 3 => ("FrameMachine$Exceptions", "latest", "I", false)
  | 4 => ("FrameMachine$Exceptions", "count", "I", false)
  | _ => ("FrameMachine$Exceptions", "halted", "Z", false)
def zt_E : Nat → FieldType := fun k => match k with
  | 0 => (.object "FrameMachine$Bus")
  | 1 => (.object "FrameMachine$Registers")
  | 2 => (.object "FrameMachine$Pointers")
  | 3 => .int
  | 4 => .int
  | _ => .boolean
theorem zn_E : ∀ a, a < 6 → ∀ b, b < 6 → a ≠ b → (zT_E a).2.1 ≠ (zT_E b).2.1 := by decide +kernel
theorem zto_E : ∀ k, k < 6 → parseFieldDescriptor (zT_E k).2.2.1 = some (zt_E k) := by decide +kernel
def zT_P : u_T := fun k => match k with
  | 0 => ("FrameMachine$Processor", "bus", "LFrameMachine$Bus;", true)
  | 1 => ("FrameMachine$Processor", "registers", "LFrameMachine$Registers;", true)
  | 2 => ("FrameMachine$Processor", "pointers", "LFrameMachine$Pointers;", true)
  | 3 => ("FrameMachine$Processor", "exceptions", "LFrameMachine$Exceptions;", true)
  | 4 => ("FrameMachine$Processor", "instruction", "LFrameMachine$Instruction;", true)
  | 5 => ("FrameMachine$Processor", "operand", "LFrameMachine$Operand;", true)
  | 6 => ("FrameMachine$Processor", "arithmetic", "LFrameMachine$Arithmetic;", true)
  | 7 => ("FrameMachine$Processor", "steps", "I", false)
  | 8 => ("FrameMachine$Processor", "stopped", "Z", false)
  | 9 => ("FrameMachine$Processor", "start", "I", false)
  | _ => ("FrameMachine$Processor", "pending", "I", false)
def zt_P : Nat → FieldType := fun k => match k with
  | 0 => (.object "FrameMachine$Bus")
  | 1 => (.object "FrameMachine$Registers")
  | 2 => (.object "FrameMachine$Pointers")
  | 3 => (.object "FrameMachine$Exceptions")
  | 4 => (.object "FrameMachine$Instruction")
  | 5 => (.object "FrameMachine$Operand")
  | 6 => (.object "FrameMachine$Arithmetic")
  | 7 => .int
  | 8 => .boolean
  | 9 => .int
  | _ => .int
theorem zn_P : ∀ a, a < 11 → ∀ b, b < 11 → a ≠ b → (zT_P a).2.1 ≠ (zT_P b).2.1 := by decide +kernel
theorem zto_P : ∀ k, k < 11 → parseFieldDescriptor (zT_P k).2.2.1 = some (zt_P k) := by decide +kernel
def zT_I : u_T := fun k => match k with
  | 0 => ("FrameMachine$Instruction", "word", "I", false)
  | 1 => ("FrameMachine$Instruction", "op", "I", false)
  | 2 => ("FrameMachine$Instruction", "size", "I", false)
  | 3 => ("FrameMachine$Instruction", "\x72", "I", false)
  | 4 => ("FrameMachine$Instruction", "m", "I", false)
  | _ => ("FrameMachine$Instruction", "q", "I", false)
def zt_I : Nat → FieldType := fun k => match k with
  | 0 => .int
  | 1 => .int
  | 2 => .int
  | 3 => .int
  | 4 => .int
  | _ => .int
theorem zn_I : ∀ a, a < 6 → ∀ b, b < 6 → a ≠ b → (zT_I a).2.1 ≠ (zT_I b).2.1 := by decide +kernel
theorem zto_I : ∀ k, k < 6 → parseFieldDescriptor (zT_I k).2.2.1 = some (zt_I k) := by decide +kernel
def zT_O : u_T := fun k => match k with
  | 0 => ("FrameMachine$Operand", "bus", "LFrameMachine$Bus;", true)
  | 1 => ("FrameMachine$Operand", "registers", "LFrameMachine$Registers;", true)
  | 2 => ("FrameMachine$Operand", "pointers", "LFrameMachine$Pointers;", true)
  | 3 => ("FrameMachine$Operand", "way", "I", false)
  | 4 => ("FrameMachine$Operand", "index", "I", false)
  | 5 => ("FrameMachine$Operand", "size", "I", false)
  | 6 => ("FrameMachine$Operand", "place", "I", false)
  | _ => ("FrameMachine$Operand", "value", "I", false)
def zt_O : Nat → FieldType := fun k => match k with
  | 0 => (.object "FrameMachine$Bus")
  | 1 => (.object "FrameMachine$Registers")
  | 2 => (.object "FrameMachine$Pointers")
  | 3 => .int
  | 4 => .int
  | 5 => .int
  | 6 => .int
  | _ => .int
theorem zn_O : ∀ a, a < 8 → ∀ b, b < 8 → a ≠ b → (zT_O a).2.1 ≠ (zT_O b).2.1 := by decide +kernel
theorem zto_O : ∀ k, k < 8 → parseFieldDescriptor (zT_O k).2.2.1 = some (zt_O k) := by decide +kernel
def zT_A : u_T := fun k => match k with
  | _ => ("FrameMachine$Arithmetic", "registers", "LFrameMachine$Registers;", true)
def zt_A : Nat → FieldType := fun k => match k with
  | _ => (.object "FrameMachine$Registers")
theorem zn_A : ∀ a, a < 1 → ∀ b, b < 1 → a ≠ b → (zT_A a).2.1 ≠ (zT_A b).2.1 := by decide +kernel
theorem zto_A : ∀ k, k < 1 → parseFieldDescriptor (zT_A k).2.2.1 = some (zt_A k) := by decide +kernel
def zT_M : u_T := fun k => match k with
  | 0 => ("FrameMachineModel", "threw", "I", false)
  | 1 => ("FrameMachineModel", "memory", "[I", true)
  | 2 => ("FrameMachineModel", "d", "[I", true)
  | 3 => ("FrameMachineModel", "a", "[I", true)
  | 4 => ("FrameMachineModel", "other", "I", false)
  | 5 => ("FrameMachineModel", "pc", "I", false)
  | 6 => ("FrameMachineModel", "trace", "I", false)
  | 7 => ("FrameMachineModel", "above", "I", false)
  | 8 => ("FrameMachineModel", "mask", "I", false)
  | 9 => ("FrameMachineModel", "x", "I", false)
  | 10 => ("FrameMachineModel", "n", "I", false)
  | 11 => ("FrameMachineModel", "z", "I", false)
  | 12 => ("FrameMachineModel", "v", "I", false)
  | 13 => ("FrameMachineModel", "c", "I", false)
  | 14 => ("FrameMachineModel", "state", "I", false)
  | 15 => ("FrameMachineModel", "steps", "I", false)
  | 16 => ("FrameMachineModel", "latest", "I", false)
  | 17 => ("FrameMachineModel", "exceptions", "I", false)
  | 18 => ("FrameMachineModel", "fault", "I", false)
  | 19 => ("FrameMachineModel", "faultAt", "I", false)
  | 20 => ("FrameMachineModel", "faultReads", "I", false)
  | 21 => ("FrameMachineModel", "first", "I", false)
  | 22 => ("FrameMachineModel", "own", "I", false)
  | 23 => ("FrameMachineModel", "ended", "I", false)
  | 24 => ("FrameMachineModel", "place", "I", false)
  | 25 => ("FrameMachineModel", "count", "I", false)
  | 26 => ("FrameMachineModel", "reload", "I", false)
  | 27 => ("FrameMachineModel", "goes", "Z", false)
  | 28 => ("FrameMachineModel", "due", "Z", false)
  | 29 => ("FrameMachineModel", "came", "I", false)
  | 30 => ("FrameMachineModel", "lost", "Z", false)
  | 31 => ("FrameMachineModel", "sending", "I", false)
  | 32 => ("FrameMachineModel", "left", "I", false)
  | 33 => ("FrameMachineModel", "gone", "I", false)
  | _ => ("FrameMachineModel", "ring", "[I", true)
def zt_M : Nat → FieldType := fun k => match k with
  | 0 => .int
  | 1 => (.array .int)
  | 2 => (.array .int)
  | 3 => (.array .int)
  | 4 => .int
  | 5 => .int
  | 6 => .int
  | 7 => .int
  | 8 => .int
  | 9 => .int
  | 10 => .int
  | 11 => .int
  | 12 => .int
  | 13 => .int
  | 14 => .int
  | 15 => .int
  | 16 => .int
  | 17 => .int
  | 18 => .int
  | 19 => .int
  | 20 => .int
  | 21 => .int
  | 22 => .int
  | 23 => .int
  | 24 => .int
  | 25 => .int
  | 26 => .int
  | 27 => .boolean
  | 28 => .boolean
  | 29 => .int
  | 30 => .boolean
  | 31 => .int
  | 32 => .int
  | 33 => .int
  | _ => (.array .int)
theorem zn_M : ∀ a, a < 35 → ∀ b, b < 35 → a ≠ b → (zT_M a).2.1 ≠ (zT_M b).2.1 := by decide +kernel
theorem zto_M : ∀ k, k < 35 → parseFieldDescriptor (zT_M k).2.2.1 = some (zt_M k) := by decide +kernel
abbrev b_F_isNoWordOfMemory : ByteArray := prog_1_method_12_code
def y_F_isNoWordOfMemory : MethodName := ⟨"FrameMachine", "isNoWordOfMemory", "(I)Z"⟩
abbrev b_B_fails : ByteArray := prog_3_method_4_code
def y_B_fails : MethodName := ⟨"FrameMachine$Bus", "fails", "(IIZ)Z"⟩
abbrev b_D_writeByte : ByteArray := prog_4_method_10_code
def y_D_writeByte : MethodName := ⟨"FrameMachine$Devices", "writeByte", "(II)V"⟩
abbrev b_B_write : ByteArray := prog_3_method_3_code
def y_B_write : MethodName := ⟨"FrameMachine$Bus", "write", "(III)V"⟩
abbrev b_D_readByte : ByteArray := prog_4_method_9_code
def y_D_readByte : MethodName := ⟨"FrameMachine$Devices", "readByte", "(I)I"⟩
abbrev b_B_read : ByteArray := prog_3_method_2_code
def y_B_read : MethodName := ⟨"FrameMachine$Bus", "read", "(II)I"⟩
abbrev b_G_change : ByteArray := prog_10_method_2_code
def y_G_change : MethodName := ⟨"FrameMachine$Registers", "change", "(II)V"⟩
abbrev b_G_changeStatus : ByteArray := prog_10_method_4_code
def y_G_changeStatus : MethodName := ⟨"FrameMachine$Registers", "changeStatus", "(I)V"⟩
abbrev b_F_status : ByteArray := prog_1_method_5_code
def y_F_status : MethodName := ⟨"FrameMachine", "status", "(I)I"⟩
abbrev b_D_stepTimer : ByteArray := prog_4_method_4_code
def y_D_stepTimer : MethodName := ⟨"FrameMachine$Devices", "stepTimer", "()V"⟩
abbrev b_D_stepLine : ByteArray := prog_4_method_5_code
def y_D_stepLine : MethodName := ⟨"FrameMachine$Devices", "stepLine", "()V"⟩
abbrev b_D_step : ByteArray := prog_4_method_3_code
def y_D_step : MethodName := ⟨"FrameMachine$Devices", "step", "()V"⟩
abbrev b_D_level : ByteArray := prog_4_method_6_code
def y_D_level : MethodName := ⟨"FrameMachine$Devices", "level", "()I"⟩
abbrev b_G_levelMask : ByteArray := prog_10_method_7_code
def y_G_levelMask : MethodName := ⟨"FrameMachine$Registers", "levelMask", "()I"⟩
abbrev b_G_has : ByteArray := prog_10_method_5_code
def y_G_has : MethodName := ⟨"FrameMachine$Registers", "has", "(I)Z"⟩
abbrev b_Q_nextWord : ByteArray := prog_8_method_2_code
def y_Q_nextWord : MethodName := ⟨"FrameMachine$Pointers", "nextWord", "()I"⟩
abbrev b_I_decode : ByteArray := prog_6_method_2_code
def y_I_decode : MethodName := ⟨"FrameMachine$Instruction", "decode", "(I)V"⟩
abbrev b_I_condition : ByteArray := prog_6_method_4_code
def y_I_condition : MethodName := ⟨"FrameMachine$Instruction", "condition", "()I"⟩
abbrev b_I_hasOperand : ByteArray := prog_6_method_5_code
def y_I_hasOperand : MethodName := ⟨"FrameMachine$Instruction", "hasOperand", "()Z"⟩
abbrev b_I_kind : ByteArray := prog_6_method_8_code
def y_I_kind : MethodName := ⟨"FrameMachine$Instruction", "kind", "()I"⟩
abbrev b_I_way : ByteArray := prog_6_method_3_code
def y_I_way : MethodName := ⟨"FrameMachine$Instruction", "way", "()I"⟩
abbrev b_I_isNone : ByteArray := prog_6_method_7_code
def y_I_isNone : MethodName := ⟨"FrameMachine$Instruction", "isNone", "()Z"⟩
abbrev b_I_needsSupervisor : ByteArray := prog_6_method_9_code
def y_I_needsSupervisor : MethodName := ⟨"FrameMachine$Instruction", "needsSupervisor", "()Z"⟩
abbrev b_P_begin : ByteArray := prog_9_method_4_code
def y_P_begin : MethodName := ⟨"FrameMachine$Processor", "begin", "()V"⟩
abbrev b_P_goesOn : ByteArray := prog_9_method_3_code
def y_P_goesOn : MethodName := ⟨"FrameMachine$Processor", "goesOn", "()Z"⟩
abbrev b_E_note : ByteArray := prog_5_method_4_code
def y_E_note : MethodName := ⟨"FrameMachine$Exceptions", "note", "(I)V"⟩
abbrev b_E_statusIn : ByteArray := prog_5_method_5_code
def y_E_statusIn : MethodName := ⟨"FrameMachine$Exceptions", "statusIn", "(II)I"⟩
abbrev b_Q_push : ByteArray := prog_8_method_4_code
def y_Q_push : MethodName := ⟨"FrameMachine$Pointers", "push", "(II)V"⟩
abbrev b_E_isOfAccess : ByteArray := prog_5_method_6_code
def y_E_isOfAccess : MethodName := ⟨"FrameMachine$Exceptions", "isOfAccess", "(I)Z"⟩
abbrev b_E_enter : ByteArray := prog_5_method_3_code
def y_E_enter : MethodName := ⟨"FrameMachine$Exceptions", "enter", "(III)V"⟩
abbrev b_E_raise : ByteArray := prog_5_method_2_code
def y_E_raise : MethodName := ⟨"FrameMachine$Exceptions", "raise", "(III)V"⟩
abbrev b_E_latestForbidsTrace : ByteArray := prog_5_method_7_code
def y_E_latestForbidsTrace : MethodName := ⟨"FrameMachine$Exceptions", "latestForbidsTrace", "()Z"⟩
abbrev b_P_finish : ByteArray := prog_9_method_6_code
def y_P_finish : MethodName := ⟨"FrameMachine$Processor", "finish", "(Z)V"⟩
abbrev b_F_maskOf : ByteArray := prog_1_method_13_code
def y_F_maskOf : MethodName := ⟨"FrameMachine", "maskOf", "(I)I"⟩
abbrev b_G_putData : ByteArray := prog_10_method_8_code
def y_G_putData : MethodName := ⟨"FrameMachine$Registers", "putData", "(III)V"⟩
abbrev b_P_put : ByteArray := prog_9_method_8_code
def y_P_put : MethodName := ⟨"FrameMachine$Processor", "put", "(I)V"⟩
abbrev b_F_topBitOf : ByteArray := prog_1_method_14_code
def y_F_topBitOf : MethodName := ⟨"FrameMachine", "topBitOf", "(I)I"⟩
abbrev b_G_mark : ByteArray := prog_10_method_6_code
def y_G_mark : MethodName := ⟨"FrameMachine$Registers", "mark", "(IZ)V"⟩
abbrev b_A_markSign : ByteArray := prog_2_method_3_code
def y_A_markSign : MethodName := ⟨"FrameMachine$Arithmetic", "markSign", "(II)V"⟩
abbrev b_A_markResult : ByteArray := prog_2_method_2_code
def y_A_markResult : MethodName := ⟨"FrameMachine$Arithmetic", "markResult", "(II)V"⟩
abbrev b_P_putMarked : ByteArray := prog_9_method_9_code
def y_P_putMarked : MethodName := ⟨"FrameMachine$Processor", "putMarked", "(I)V"⟩
abbrev b_O_store : ByteArray := prog_7_method_5_code
def y_O_store : MethodName := ⟨"FrameMachine$Operand", "store", "(I)V"⟩
abbrev b_P_storeMarked : ByteArray := prog_9_method_10_code
def y_P_storeMarked : MethodName := ⟨"FrameMachine$Processor", "storeMarked", "(I)V"⟩
abbrev b_F_withSign : ByteArray := prog_1_method_15_code
def y_F_withSign : MethodName := ⟨"FrameMachine", "withSign", "(II)I"⟩
abbrev b_A_isBelow : ByteArray := prog_2_method_7_code
def y_A_isBelow : MethodName := ⟨"FrameMachine$Arithmetic", "isBelow", "(II)Z"⟩
abbrev b_A_sum : ByteArray := prog_2_method_4_code
def y_A_sum : MethodName := ⟨"FrameMachine$Arithmetic", "sum", "(III)I"⟩
abbrev b_A_compare : ByteArray := prog_2_method_6_code
def y_A_compare : MethodName := ⟨"FrameMachine$Arithmetic", "compare", "(III)I"⟩
abbrev b_A_difference : ByteArray := prog_2_method_5_code
def y_A_difference : MethodName := ⟨"FrameMachine$Arithmetic", "difference", "(III)I"⟩
abbrev b_A_onceLeft : ByteArray := prog_2_method_9_code
def y_A_onceLeft : MethodName := ⟨"FrameMachine$Arithmetic", "onceLeft", "(IIZ)I"⟩
abbrev b_A_shift : ByteArray := prog_2_method_8_code
def y_A_shift : MethodName := ⟨"FrameMachine$Arithmetic", "shift", "(IIII)I"⟩
abbrev b_P_shift : ByteArray := prog_9_method_11_code
def y_P_shift : MethodName := ⟨"FrameMachine$Processor", "shift", "(I)V"⟩
abbrev b_P_multiply : ByteArray := prog_9_method_12_code
def y_P_multiply : MethodName := ⟨"FrameMachine$Processor", "multiply", "(II)V"⟩
abbrev b_A_divide : ByteArray := prog_2_method_10_code
def y_A_divide : MethodName := ⟨"FrameMachine$Arithmetic", "divide", "(IJJZ)V"⟩
abbrev b_P_divide : ByteArray := prog_9_method_13_code
def y_P_divide : MethodName := ⟨"FrameMachine$Processor", "divide", "(JJZ)V"⟩
abbrev b_G_meets : ByteArray := prog_10_method_9_code
def y_G_meets : MethodName := ⟨"FrameMachine$Registers", "meets", "(I)Z"⟩
abbrev b_P_call : ByteArray := prog_9_method_15_code
def y_P_call : MethodName := ⟨"FrameMachine$Processor", "call", "(I)V"⟩
abbrev b_P_branch : ByteArray := prog_9_method_14_code
def y_P_branch : MethodName := ⟨"FrameMachine$Processor", "branch", "()V"⟩
abbrev b_Q_pop : ByteArray := prog_8_method_5_code
def y_Q_pop : MethodName := ⟨"FrameMachine$Pointers", "pop", "(I)I"⟩
abbrev b_P_comeBack : ByteArray := prog_9_method_17_code
def y_P_comeBack : MethodName := ⟨"FrameMachine$Processor", "comeBack", "()V"⟩
abbrev b_P_comeBackFromException : ByteArray := prog_9_method_18_code
def y_P_comeBackFromException : MethodName := ⟨"FrameMachine$Processor", "comeBackFromException", "()V"⟩
abbrev b_P_stop : ByteArray := prog_9_method_19_code
def y_P_stop : MethodName := ⟨"FrameMachine$Processor", "stop", "()V"⟩
abbrev b_P_control : ByteArray := prog_9_method_16_code
def y_P_control : MethodName := ⟨"FrameMachine$Processor", "control", "()V"⟩
abbrev b_P_exchangeOther : ByteArray := prog_9_method_20_code
def y_P_exchangeOther : MethodName := ⟨"FrameMachine$Processor", "exchangeOther", "()V"⟩
abbrev b_P_check : ByteArray := prog_9_method_21_code
def y_P_check : MethodName := ⟨"FrameMachine$Processor", "check", "(II)V"⟩
abbrev b_P_execute : ByteArray := prog_9_method_7_code
def y_P_execute : MethodName := ⟨"FrameMachine$Processor", "execute", "()V"⟩
abbrev b_O_stride : ByteArray := prog_7_method_3_code
def y_O_stride : MethodName := ⟨"FrameMachine$Operand", "stride", "()I"⟩
abbrev b_Q_nextLong : ByteArray := prog_8_method_3_code
def y_Q_nextLong : MethodName := ⟨"FrameMachine$Pointers", "nextLong", "()I"⟩
abbrev b_O_locate : ByteArray := prog_7_method_2_code
def y_O_locate : MethodName := ⟨"FrameMachine$Operand", "locate", "(LFrameMachine$Instruction;)V"⟩
abbrev b_I_readsOperand : ByteArray := prog_6_method_6_code
def y_I_readsOperand : MethodName := ⟨"FrameMachine$Instruction", "readsOperand", "()Z"⟩
abbrev b_O_load : ByteArray := prog_7_method_4_code
def y_O_load : MethodName := ⟨"FrameMachine$Operand", "load", "()V"⟩
abbrev b_P_takeOperand : ByteArray := prog_9_method_5_code
def y_P_takeOperand : MethodName := ⟨"FrameMachine$Processor", "takeOperand", "()V"⟩
abbrev b_P_step : ByteArray := prog_9_method_2_code
def y_P_step : MethodName := ⟨"FrameMachine$Processor", "step", "()Z"⟩
abbrev b_D_receive : ByteArray := prog_4_method_7_code
def y_D_receive : MethodName := ⟨"FrameMachine$Devices", "receive", "(I)Z"⟩
abbrev b_D_clear : ByteArray := prog_4_method_2_code
def y_D_clear : MethodName := ⟨"FrameMachine$Devices", "clear", "()V"⟩
abbrev b_F_reset : ByteArray := prog_1_method_8_code
def y_F_reset : MethodName := ⟨"FrameMachine", "reset", "()I"⟩
abbrev b_G_value : ByteArray := prog_10_method_3_code
def y_G_value : MethodName := ⟨"FrameMachine$Registers", "value", "(I)I"⟩
abbrev b_D_sentBefore : ByteArray := prog_4_method_8_code
def y_D_sentBefore : MethodName := ⟨"FrameMachine$Devices", "sentBefore", "(I)I"⟩
abbrev b_F_gone : ByteArray := prog_1_method_10_code
def y_F_gone : MethodName := ⟨"FrameMachine", "gone", "(I)I"⟩
abbrev b_F_about : ByteArray := prog_1_method_11_code
def y_F_about : MethodName := ⟨"FrameMachine", "about", "(I)I"⟩
abbrev b_M_thrown : ByteArray := prog_12_method_2_code
def y_M_thrown : MethodName := ⟨"FrameMachineModel", "thrown", "()I"⟩
abbrev b_M_bytes : ByteArray := prog_12_method_3_code
def y_M_bytes : MethodName := ⟨"FrameMachineModel", "bytes", "(I)I"⟩
abbrev b_M_bits : ByteArray := prog_12_method_4_code
def y_M_bits : MethodName := ⟨"FrameMachineModel", "bits", "(I)I"⟩
abbrev b_M_whole : ByteArray := prog_12_method_5_code
def y_M_whole : MethodName := ⟨"FrameMachineModel", "whole", "(I)J"⟩
abbrev b_M_cut : ByteArray := prog_12_method_6_code
def y_M_cut : MethodName := ⟨"FrameMachineModel", "cut", "(JI)J"⟩
abbrev b_M_signed : ByteArray := prog_12_method_7_code
def y_M_signed : MethodName := ⟨"FrameMachineModel", "signed", "(JI)I"⟩
abbrev b_M_device : ByteArray := prog_12_method_8_code
def y_M_device : MethodName := ⟨"FrameMachineModel", "device", "(I)I"⟩
abbrev b_M_setDevice : ByteArray := prog_12_method_9_code
def y_M_setDevice : MethodName := ⟨"FrameMachineModel", "setDevice", "(II)V"⟩
abbrev b_M_devices : ByteArray := prog_12_method_10_code
def y_M_devices : MethodName := ⟨"FrameMachineModel", "devices", "()V"⟩
abbrev b_M_allowed : ByteArray := prog_12_method_11_code
def y_M_allowed : MethodName := ⟨"FrameMachineModel", "allowed", "(IIZ)I"⟩
abbrev b_M_read : ByteArray := prog_12_method_12_code
def y_M_read : MethodName := ⟨"FrameMachineModel", "read", "(II)J"⟩
abbrev b_M_write : ByteArray := prog_12_method_13_code
def y_M_write : MethodName := ⟨"FrameMachineModel", "write", "(IIJ)V"⟩
abbrev b_M_fetch : ByteArray := prog_12_method_14_code
def y_M_fetch : MethodName := ⟨"FrameMachineModel", "fetch", "()I"⟩
abbrev b_M_fetchLong : ByteArray := prog_12_method_15_code
def y_M_fetchLong : MethodName := ⟨"FrameMachineModel", "fetchLong", "()I"⟩
abbrev b_M_push : ByteArray := prog_12_method_16_code
def y_M_push : MethodName := ⟨"FrameMachineModel", "push", "(IJ)V"⟩
abbrev b_M_pop : ByteArray := prog_12_method_17_code
def y_M_pop : MethodName := ⟨"FrameMachineModel", "pop", "(I)I"⟩
abbrev b_M_packed : ByteArray := prog_12_method_18_code
def y_M_packed : MethodName := ⟨"FrameMachineModel", "packed", "()I"⟩
abbrev b_M_setAbove : ByteArray := prog_12_method_19_code
def y_M_setAbove : MethodName := ⟨"FrameMachineModel", "setAbove", "(I)V"⟩
abbrev b_M_setStatus : ByteArray := prog_12_method_20_code
def y_M_setStatus : MethodName := ⟨"FrameMachineModel", "setStatus", "(I)V"⟩
abbrev b_M_tells : ByteArray := prog_12_method_21_code
def y_M_tells : MethodName := ⟨"FrameMachineModel", "tells", "(JI)V"⟩
abbrev b_M_any : ByteArray := prog_12_method_22_code
def y_M_any : MethodName := ⟨"FrameMachineModel", "any", "(II)Z"⟩
abbrev b_M_data : ByteArray := prog_12_method_23_code
def y_M_data : MethodName := ⟨"FrameMachineModel", "data", "(II)Z"⟩
abbrev b_M_alterable : ByteArray := prog_12_method_24_code
def y_M_alterable : MethodName := ⟨"FrameMachineModel", "alterable", "(II)Z"⟩
abbrev b_M_places : ByteArray := prog_12_method_25_code
def y_M_places : MethodName := ⟨"FrameMachineModel", "places", "(II)Z"⟩
abbrev b_M_locate : ByteArray := prog_12_method_26_code
def y_M_locate : MethodName := ⟨"FrameMachineModel", "locate", "(III)V"⟩
abbrev b_M_operand : ByteArray := prog_12_method_27_code
def y_M_operand : MethodName := ⟨"FrameMachineModel", "operand", "(III)J"⟩
abbrev b_M_setD : ByteArray := prog_12_method_28_code
def y_M_setD : MethodName := ⟨"FrameMachineModel", "setD", "(IIJ)V"⟩
abbrev b_M_put : ByteArray := prog_12_method_29_code
def y_M_put : MethodName := ⟨"FrameMachineModel", "put", "(IIIJ)V"⟩
abbrev b_M_sum : ByteArray := prog_12_method_30_code
def y_M_sum : MethodName := ⟨"FrameMachineModel", "sum", "(JJI)J"⟩
abbrev b_M_difference : ByteArray := prog_12_method_31_code
def y_M_difference : MethodName := ⟨"FrameMachineModel", "difference", "(JJIZ)J"⟩
abbrev b_M_shifts : ByteArray := prog_12_method_32_code
def y_M_shifts : MethodName := ⟨"FrameMachineModel", "shifts", "(IIII)V"⟩
abbrev b_M_divides : ByteArray := prog_12_method_33_code
def y_M_divides : MethodName := ⟨"FrameMachineModel", "divides", "(IJZ)V"⟩
abbrev b_M_checks : ByteArray := prog_12_method_34_code
def y_M_checks : MethodName := ⟨"FrameMachineModel", "checks", "(IJ)V"⟩
abbrev b_M_legal : ByteArray := prog_12_method_35_code
def y_M_legal : MethodName := ⟨"FrameMachineModel", "legal", "(IIIII)Z"⟩
abbrev b_M_needsAbove : ByteArray := prog_12_method_36_code
def y_M_needsAbove : MethodName := ⟨"FrameMachineModel", "needsAbove", "(II)Z"⟩
abbrev b_M_reckons : ByteArray := prog_12_method_37_code
def y_M_reckons : MethodName := ⟨"FrameMachineModel", "reckons", "(IIIII)V"⟩
abbrev b_M_holds : ByteArray := prog_12_method_38_code
def y_M_holds : MethodName := ⟨"FrameMachineModel", "holds", "(I)Z"⟩
abbrev b_M_branches : ByteArray := prog_12_method_39_code
def y_M_branches : MethodName := ⟨"FrameMachineModel", "branches", "(I)V"⟩
abbrev b_M_returns : ByteArray := prog_12_method_40_code
def y_M_returns : MethodName := ⟨"FrameMachineModel", "returns", "(I)V"⟩
abbrev b_M_others : ByteArray := prog_12_method_41_code
def y_M_others : MethodName := ⟨"FrameMachineModel", "others", "(IIIII)V"⟩
abbrev b_M_does : ByteArray := prog_12_method_42_code
def y_M_does : MethodName := ⟨"FrameMachineModel", "does", "(IIIII)V"⟩
abbrev b_M_exception : ByteArray := prog_12_method_43_code
def y_M_exception : MethodName := ⟨"FrameMachineModel", "exception", "(III)V"⟩
abbrev b_M_instruction : ByteArray := prog_12_method_44_code
def y_M_instruction : MethodName := ⟨"FrameMachineModel", "instruction", "()V"⟩
abbrev b_M_step : ByteArray := prog_12_method_45_code
def y_M_step : MethodName := ⟨"FrameMachineModel", "step", "()Z"⟩
abbrev b_M_run : ByteArray := prog_12_method_46_code
def y_M_run : MethodName := ⟨"FrameMachineModel", "run", "(I)I"⟩
abbrev b_M_comes : ByteArray := prog_12_method_47_code
def y_M_comes : MethodName := ⟨"FrameMachineModel", "comes", "(I)Z"⟩
abbrev b_M_reset : ByteArray := prog_12_method_48_code
def y_M_reset : MethodName := ⟨"FrameMachineModel", "reset", "()I"⟩
abbrev b_M_isWord : ByteArray := prog_12_method_49_code
def y_M_isWord : MethodName := ⟨"FrameMachineModel", "isWord", "(I)Z"⟩
abbrev b_M_poke : ByteArray := prog_12_method_50_code
def y_M_poke : MethodName := ⟨"FrameMachineModel", "poke", "(II)Z"⟩
abbrev b_M_peek : ByteArray := prog_12_method_51_code
def y_M_peek : MethodName := ⟨"FrameMachineModel", "peek", "(I)I"⟩
abbrev b_M_set : ByteArray := prog_12_method_52_code
def y_M_set : MethodName := ⟨"FrameMachineModel", "set", "(II)Z"⟩
abbrev b_M_status : ByteArray := prog_12_method_53_code
def y_M_status : MethodName := ⟨"FrameMachineModel", "status", "(I)I"⟩
abbrev b_M_get : ByteArray := prog_12_method_54_code
def y_M_get : MethodName := ⟨"FrameMachineModel", "get", "(I)I"⟩
abbrev b_M_gone : ByteArray := prog_12_method_55_code
def y_M_gone : MethodName := ⟨"FrameMachineModel", "gone", "(I)I"⟩
abbrev b_M_about : ByteArray := prog_12_method_56_code
def y_M_about : MethodName := ⟨"FrameMachineModel", "about", "(I)I"⟩
theorem kb_6 : (Int8.ofInt 6).toInt32 = 6 := by decide
theorem kb_7 : (Int8.ofInt 7).toInt32 = 7 := by decide
theorem kb_8 : (Int8.ofInt 8).toInt32 = 8 := by decide
theorem kb_9 : (Int8.ofInt 9).toInt32 = 9 := by decide
theorem kb_10 : (Int8.ofInt 10).toInt32 = 10 := by decide
theorem kb_11 : (Int8.ofInt 11).toInt32 = 11 := by decide
theorem kb_12 : (Int8.ofInt 12).toInt32 = 12 := by decide
theorem kb_13 : (Int8.ofInt 13).toInt32 = 13 := by decide
theorem kb_14 : (Int8.ofInt 14).toInt32 = 14 := by decide
theorem kb_15 : (Int8.ofInt 15).toInt32 = 15 := by decide
theorem kb_16 : (Int8.ofInt 16).toInt32 = 16 := by decide
theorem kb_17 : (Int8.ofInt 17).toInt32 = 17 := by decide
theorem kb_18 : (Int8.ofInt 18).toInt32 = 18 := by decide
theorem kb_19 : (Int8.ofInt 19).toInt32 = 19 := by decide
theorem kb_20 : (Int8.ofInt 20).toInt32 = 20 := by decide
theorem kb_21 : (Int8.ofInt 21).toInt32 = 21 := by decide
theorem kb_22 : (Int8.ofInt 22).toInt32 = 22 := by decide
theorem kb_23 : (Int8.ofInt 23).toInt32 = 23 := by decide
theorem kb_24 : (Int8.ofInt 24).toInt32 = 24 := by decide
theorem kb_25 : (Int8.ofInt 25).toInt32 = 25 := by decide
theorem kb_26 : (Int8.ofInt 26).toInt32 = 26 := by decide
theorem kb_27 : (Int8.ofInt 27).toInt32 = 27 := by decide
theorem kb_28 : (Int8.ofInt 28).toInt32 = 28 := by decide
theorem kb_29 : (Int8.ofInt 29).toInt32 = 29 := by decide
theorem kb_31 : (Int8.ofInt 31).toInt32 = 31 := by decide
theorem kb_32 : (Int8.ofInt 32).toInt32 = 32 := by decide
theorem kb_48 : (Int8.ofInt 48).toInt32 = 48 := by decide
theorem kb_56 : (Int8.ofInt 56).toInt32 = 56 := by decide
theorem ki_m1 : Int32.ofInt (-1) = (-1) := by decide
theorem ki_0 : Int32.ofInt 0 = 0 := by decide
theorem ki_1 : Int32.ofInt 1 = 1 := by decide
theorem ki_2 : Int32.ofInt 2 = 2 := by decide
theorem ki_3 : Int32.ofInt 3 = 3 := by decide
theorem ki_4 : Int32.ofInt 4 = 4 := by decide
theorem ki_5 : Int32.ofInt 5 = 5 := by decide
theorem ks_m1793 : (Int16.ofInt (-1793)).toInt32 = (-1793) := by decide
theorem ks_128 : (Int16.ofInt 128).toInt32 = 128 := by decide
theorem ks_255 : (Int16.ofInt 255).toInt32 = 255 := by decide
theorem ks_256 : (Int16.ofInt 256).toInt32 = 256 := by decide
theorem ks_740 : (Int16.ofInt 740).toInt32 = 740 := by decide
theorem ks_1021 : (Int16.ofInt 1021).toInt32 = 1021 := by decide
theorem ks_1022 : (Int16.ofInt 1022).toInt32 = 1022 := by decide
theorem ks_1023 : (Int16.ofInt 1023).toInt32 = 1023 := by decide
theorem ks_1024 : (Int16.ofInt 1024).toInt32 = 1024 := by decide
theorem ks_1792 : (Int16.ofInt 1792).toInt32 = 1792 := by decide
theorem ks_8192 : (Int16.ofInt 8192).toInt32 = 8192 := by decide
