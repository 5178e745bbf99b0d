theorem hyL_poke : y_L_poke.cls ≠ "java/lang/invoke/MethodHandle" ∧ y_L_poke.cls ≠ "java/lang/invoke/VarHandle" ∧ (parseMethodDescriptor y_L_poke.desc).map (fun d => d.parameters.length) = some 4 := ⟨by decide +kernel, by decide +kernel, by decide +kernel⟩
theorem hyL_peek : y_L_peek.cls ≠ "java/lang/invoke/MethodHandle" ∧ y_L_peek.cls ≠ "java/lang/invoke/VarHandle" ∧ (parseMethodDescriptor y_L_peek.desc).map (fun d => d.parameters.length) = some 3 := ⟨by decide +kernel, by decide +kernel, by decide +kernel⟩
theorem hyL_set : y_L_set.cls ≠ "java/lang/invoke/MethodHandle" ∧ y_L_set.cls ≠ "java/lang/invoke/VarHandle" ∧ (parseMethodDescriptor y_L_set.desc).map (fun d => d.parameters.length) = some 4 := ⟨by decide +kernel, by decide +kernel, by decide +kernel⟩
theorem hyL_run : y_L_run.cls ≠ "java/lang/invoke/MethodHandle" ∧ y_L_run.cls ≠ "java/lang/invoke/VarHandle" ∧ (parseMethodDescriptor y_L_run.desc).map (fun d => d.parameters.length) = some 3 := ⟨by decide +kernel, by decide +kernel, by decide +kernel⟩
theorem hyL_comes : y_L_comes.cls ≠ "java/lang/invoke/MethodHandle" ∧ y_L_comes.cls ≠ "java/lang/invoke/VarHandle" ∧ (parseMethodDescriptor y_L_comes.desc).map (fun d => d.parameters.length) = some 3 := ⟨by decide +kernel, by decide +kernel, by decide +kernel⟩
theorem hyL_get : y_L_get.cls ≠ "java/lang/invoke/MethodHandle" ∧ y_L_get.cls ≠ "java/lang/invoke/VarHandle" ∧ (parseMethodDescriptor y_L_get.desc).map (fun d => d.parameters.length) = some 3 := ⟨by decide +kernel, by decide +kernel, by decide +kernel⟩
theorem kw_353 : (Jvm.Cond.methodLink "FrameMachineLaw" (36 : Nat) ({ cls := "FrameMachineLaw", name := "poke", desc := "(LFrameMachine;II[J)I" } : Jvm.MethodName)) ∈ lw_tbl := zk_2 (List.mem_of_getElem? (i := 113) rfl)
theorem kw_354 : (Jvm.Cond.static ({ cls := "FrameMachineLaw", name := "poke", desc := "(LFrameMachine;II[J)I" } : Jvm.MethodName)) ∈ lw_tbl := zk_2 (List.mem_of_getElem? (i := 114) rfl)
theorem kw_0 : (Jvm.Cond.initialized "FrameMachineLaw") ∈ lw_tbl := zk_1 (List.mem_of_getElem? (i := 0) rfl)
theorem kw_355 : (Jvm.Cond.codeWith ({ cls := "FrameMachineLaw", name := "poke", desc := "(LFrameMachine;II[J)I" } : Jvm.MethodName) method_3_code (5 : Nat) (Option.some Jvm.ClassFile.FieldType.int) [((0 : Nat), (17 : Nat), (20 : Nat), (13 : Nat))]) ∈ lw_tbl := zk_2 (List.mem_of_getElem? (i := 115) rfl)
theorem kw_1072 : (Jvm.Cond.methodLink "FrameMachineLaw" (41 : Nat) ({ cls := "FrameMachineModel", name := "poke", desc := "(II)Z" } : Jvm.MethodName)) ∈ lw_tbl := zk_5 (List.mem_of_getElem? (i := 112) rfl)
theorem kw_1073 : (Jvm.Cond.instanceMethod ({ cls := "FrameMachineModel", name := "poke", desc := "(II)Z" } : Jvm.MethodName)) ∈ lw_tbl := zk_5 (List.mem_of_getElem? (i := 113) rfl)
theorem kw_1074 : (Jvm.Cond.selects "FrameMachineModel" ({ cls := "FrameMachineModel", name := "poke", desc := "(II)Z" } : Jvm.MethodName) ({ cls := "FrameMachineModel", name := "poke", desc := "(II)Z" } : Jvm.MethodName)) ∈ lw_tbl := zk_5 (List.mem_of_getElem? (i := 114) rfl)
theorem kw_1075 : (Jvm.Cond.code ({ cls := "FrameMachineModel", name := "poke", desc := "(II)Z" } : Jvm.MethodName) prog_12_method_50_code (3 : Nat) (Option.some Jvm.ClassFile.FieldType.boolean)) ∈ lw_tbl := zk_5 (List.mem_of_getElem? (i := 115) rfl)
theorem kc_L_41 : zCV "FrameMachineLaw" 41 y_M_poke b_M_poke 3 (some .boolean) 2 := ⟨⟨kw_1072, kw_1073, kw_1074, kw_11, kw_1075⟩, by decide +kernel, by decide +kernel, by decide +kernel⟩
theorem kw_882 : (Jvm.Cond.methodLink "FrameMachineLaw" (42 : Nat) ({ cls := "FrameMachineModel", name := "thrown", desc := "()I" } : Jvm.MethodName)) ∈ lw_tbl := zk_4 (List.mem_of_getElem? (i := 162) rfl)
theorem kw_883 : (Jvm.Cond.instanceMethod ({ cls := "FrameMachineModel", name := "thrown", desc := "()I" } : Jvm.MethodName)) ∈ lw_tbl := zk_4 (List.mem_of_getElem? (i := 163) rfl)
theorem kw_884 : (Jvm.Cond.selects "FrameMachineModel" ({ cls := "FrameMachineModel", name := "thrown", desc := "()I" } : Jvm.MethodName) ({ cls := "FrameMachineModel", name := "thrown", desc := "()I" } : Jvm.MethodName)) ∈ lw_tbl := zk_4 (List.mem_of_getElem? (i := 164) rfl)
theorem kw_885 : (Jvm.Cond.code ({ cls := "FrameMachineModel", name := "thrown", desc := "()I" } : Jvm.MethodName) prog_12_method_2_code (1 : Nat) (Option.some Jvm.ClassFile.FieldType.int)) ∈ lw_tbl := zk_4 (List.mem_of_getElem? (i := 165) rfl)
theorem kc_L_42 : zCV "FrameMachineLaw" 42 y_M_thrown b_M_thrown 1 (some .int) 0 := ⟨⟨kw_882, kw_883, kw_884, kw_11, kw_885⟩, by decide +kernel, by decide +kernel, by decide +kernel⟩
theorem kw_438 : (Jvm.Cond.methodLink "FrameMachineLaw" (46 : Nat) ({ cls := "FrameMachineLaw", name := "peek", desc := "(LFrameMachine;I[J)I" } : Jvm.MethodName)) ∈ lw_tbl := zk_2 (List.mem_of_getElem? (i := 198) rfl)
theorem kw_439 : (Jvm.Cond.static ({ cls := "FrameMachineLaw", name := "peek", desc := "(LFrameMachine;I[J)I" } : Jvm.MethodName)) ∈ lw_tbl := zk_2 (List.mem_of_getElem? (i := 199) rfl)
theorem kw_440 : (Jvm.Cond.codeWith ({ cls := "FrameMachineLaw", name := "peek", desc := "(LFrameMachine;I[J)I" } : Jvm.MethodName) method_4_code (4 : Nat) (Option.some Jvm.ClassFile.FieldType.int) [((0 : Nat), (9 : Nat), (12 : Nat), (13 : Nat))]) ∈ lw_tbl := zk_2 (List.mem_of_getElem? (i := 200) rfl)
theorem kw_1080 : (Jvm.Cond.methodLink "FrameMachineLaw" (49 : Nat) ({ cls := "FrameMachineModel", name := "peek", desc := "(I)I" } : Jvm.MethodName)) ∈ lw_tbl := zk_5 (List.mem_of_getElem? (i := 120) rfl)
theorem kw_1081 : (Jvm.Cond.instanceMethod ({ cls := "FrameMachineModel", name := "peek", desc := "(I)I" } : Jvm.MethodName)) ∈ lw_tbl := zk_5 (List.mem_of_getElem? (i := 121) rfl)
theorem kw_1082 : (Jvm.Cond.selects "FrameMachineModel" ({ cls := "FrameMachineModel", name := "peek", desc := "(I)I" } : Jvm.MethodName) ({ cls := "FrameMachineModel", name := "peek", desc := "(I)I" } : Jvm.MethodName)) ∈ lw_tbl := zk_5 (List.mem_of_getElem? (i := 122) rfl)
theorem kw_1083 : (Jvm.Cond.code ({ cls := "FrameMachineModel", name := "peek", desc := "(I)I" } : Jvm.MethodName) prog_12_method_51_code (2 : Nat) (Option.some Jvm.ClassFile.FieldType.int)) ∈ lw_tbl := zk_5 (List.mem_of_getElem? (i := 123) rfl)
theorem kc_L_49 : zCV "FrameMachineLaw" 49 y_M_peek b_M_peek 2 (some .int) 1 := ⟨⟨kw_1080, kw_1081, kw_1082, kw_11, kw_1083⟩, by decide +kernel, by decide +kernel, by decide +kernel⟩
theorem kw_446 : (Jvm.Cond.methodLink "FrameMachineLaw" (50 : Nat) ({ cls := "FrameMachineLaw", name := "set", desc := "(LFrameMachine;II[J)I" } : Jvm.MethodName)) ∈ lw_tbl := zk_2 (List.mem_of_getElem? (i := 206) rfl)
theorem kw_447 : (Jvm.Cond.static ({ cls := "FrameMachineLaw", name := "set", desc := "(LFrameMachine;II[J)I" } : Jvm.MethodName)) ∈ lw_tbl := zk_2 (List.mem_of_getElem? (i := 207) rfl)
theorem kw_448 : (Jvm.Cond.codeWith ({ cls := "FrameMachineLaw", name := "set", desc := "(LFrameMachine;II[J)I" } : Jvm.MethodName) method_5_code (5 : Nat) (Option.some Jvm.ClassFile.FieldType.int) [((0 : Nat), (17 : Nat), (20 : Nat), (13 : Nat))]) ∈ lw_tbl := zk_2 (List.mem_of_getElem? (i := 208) rfl)
theorem kw_1084 : (Jvm.Cond.methodLink "FrameMachineLaw" (52 : Nat) ({ cls := "FrameMachineModel", name := "set", desc := "(II)Z" } : Jvm.MethodName)) ∈ lw_tbl := zk_5 (List.mem_of_getElem? (i := 124) rfl)
theorem kw_1085 : (Jvm.Cond.instanceMethod ({ cls := "FrameMachineModel", name := "set", desc := "(II)Z" } : Jvm.MethodName)) ∈ lw_tbl := zk_5 (List.mem_of_getElem? (i := 125) rfl)
theorem kw_1086 : (Jvm.Cond.selects "FrameMachineModel" ({ cls := "FrameMachineModel", name := "set", desc := "(II)Z" } : Jvm.MethodName) ({ cls := "FrameMachineModel", name := "set", desc := "(II)Z" } : Jvm.MethodName)) ∈ lw_tbl := zk_5 (List.mem_of_getElem? (i := 126) rfl)
theorem kw_1087 : (Jvm.Cond.code ({ cls := "FrameMachineModel", name := "set", desc := "(II)Z" } : Jvm.MethodName) prog_12_method_52_code (3 : Nat) (Option.some Jvm.ClassFile.FieldType.boolean)) ∈ lw_tbl := zk_5 (List.mem_of_getElem? (i := 127) rfl)
theorem kc_L_52 : zCV "FrameMachineLaw" 52 y_M_set b_M_set 3 (some .boolean) 2 := ⟨⟨kw_1084, kw_1085, kw_1086, kw_11, kw_1087⟩, by decide +kernel, by decide +kernel, by decide +kernel⟩
theorem kw_309 : (Jvm.Cond.methodLink "FrameMachineLaw" (53 : Nat) ({ cls := "FrameMachine", name := "status", desc := "(I)I" } : Jvm.MethodName)) ∈ lw_tbl := zk_2 (List.mem_of_getElem? (i := 69) rfl)
theorem kw_310 : (Jvm.Cond.instanceMethod ({ cls := "FrameMachine", name := "status", desc := "(I)I" } : Jvm.MethodName)) ∈ lw_tbl := zk_2 (List.mem_of_getElem? (i := 70) rfl)
theorem kw_311 : (Jvm.Cond.selects "FrameMachine" ({ cls := "FrameMachine", name := "status", desc := "(I)I" } : Jvm.MethodName) ({ cls := "FrameMachine", name := "status", desc := "(I)I" } : Jvm.MethodName)) ∈ lw_tbl := zk_2 (List.mem_of_getElem? (i := 71) rfl)
theorem kw_312 : (Jvm.Cond.code ({ cls := "FrameMachine", name := "status", desc := "(I)I" } : Jvm.MethodName) prog_1_method_5_code (2 : Nat) (Option.some Jvm.ClassFile.FieldType.int)) ∈ lw_tbl := zk_2 (List.mem_of_getElem? (i := 72) rfl)
theorem kc_L_53 : zCV "FrameMachineLaw" 53 y_F_status b_F_status 2 (some .int) 1 := ⟨⟨kw_309, kw_310, kw_311, kw_1, kw_312⟩, by decide +kernel, by decide +kernel, by decide +kernel⟩
theorem kw_1088 : (Jvm.Cond.methodLink "FrameMachineLaw" (56 : Nat) ({ cls := "FrameMachineModel", name := "status", desc := "(I)I" } : Jvm.MethodName)) ∈ lw_tbl := zk_5 (List.mem_of_getElem? (i := 128) rfl)
theorem kw_1089 : (Jvm.Cond.instanceMethod ({ cls := "FrameMachineModel", name := "status", desc := "(I)I" } : Jvm.MethodName)) ∈ lw_tbl := zk_5 (List.mem_of_getElem? (i := 129) rfl)
theorem kw_1090 : (Jvm.Cond.selects "FrameMachineModel" ({ cls := "FrameMachineModel", name := "status", desc := "(I)I" } : Jvm.MethodName) ({ cls := "FrameMachineModel", name := "status", desc := "(I)I" } : Jvm.MethodName)) ∈ lw_tbl := zk_5 (List.mem_of_getElem? (i := 130) rfl)
theorem kw_1091 : (Jvm.Cond.code ({ cls := "FrameMachineModel", name := "status", desc := "(I)I" } : Jvm.MethodName) prog_12_method_53_code (2 : Nat) (Option.some Jvm.ClassFile.FieldType.int)) ∈ lw_tbl := zk_5 (List.mem_of_getElem? (i := 131) rfl)
theorem kc_L_56 : zCV "FrameMachineLaw" 56 y_M_status b_M_status 2 (some .int) 1 := ⟨⟨kw_1088, kw_1089, kw_1090, kw_11, kw_1091⟩, by decide +kernel, by decide +kernel, by decide +kernel⟩
theorem kw_458 : (Jvm.Cond.methodLink "FrameMachineLaw" (57 : Nat) ({ cls := "FrameMachineLaw", name := "run", desc := "(LFrameMachine;I[J)I" } : Jvm.MethodName)) ∈ lw_tbl := zk_2 (List.mem_of_getElem? (i := 218) rfl)
theorem kw_459 : (Jvm.Cond.static ({ cls := "FrameMachineLaw", name := "run", desc := "(LFrameMachine;I[J)I" } : Jvm.MethodName)) ∈ lw_tbl := zk_2 (List.mem_of_getElem? (i := 219) rfl)
theorem kw_460 : (Jvm.Cond.codeWith ({ cls := "FrameMachineLaw", name := "run", desc := "(LFrameMachine;I[J)I" } : Jvm.MethodName) method_6_code (4 : Nat) (Option.some Jvm.ClassFile.FieldType.int) [((0 : Nat), (9 : Nat), (12 : Nat), (13 : Nat))]) ∈ lw_tbl := zk_2 (List.mem_of_getElem? (i := 220) rfl)
theorem kw_886 : (Jvm.Cond.methodLink "FrameMachineLaw" (59 : Nat) ({ cls := "FrameMachineModel", name := "run", desc := "(I)I" } : Jvm.MethodName)) ∈ lw_tbl := zk_4 (List.mem_of_getElem? (i := 166) rfl)
theorem kw_887 : (Jvm.Cond.instanceMethod ({ cls := "FrameMachineModel", name := "run", desc := "(I)I" } : Jvm.MethodName)) ∈ lw_tbl := zk_4 (List.mem_of_getElem? (i := 167) rfl)
theorem kw_888 : (Jvm.Cond.selects "FrameMachineModel" ({ cls := "FrameMachineModel", name := "run", desc := "(I)I" } : Jvm.MethodName) ({ cls := "FrameMachineModel", name := "run", desc := "(I)I" } : Jvm.MethodName)) ∈ lw_tbl := zk_4 (List.mem_of_getElem? (i := 168) rfl)
theorem kw_889 : (Jvm.Cond.code ({ cls := "FrameMachineModel", name := "run", desc := "(I)I" } : Jvm.MethodName) prog_12_method_46_code (5 : Nat) (Option.some Jvm.ClassFile.FieldType.int)) ∈ lw_tbl := zk_4 (List.mem_of_getElem? (i := 169) rfl)
theorem kc_L_59 : zCV "FrameMachineLaw" 59 y_M_run b_M_run 5 (some .int) 1 := ⟨⟨kw_886, kw_887, kw_888, kw_11, kw_889⟩, by decide +kernel, by decide +kernel, by decide +kernel⟩
theorem kw_747 : (Jvm.Cond.methodLink "FrameMachineLaw" (60 : Nat) ({ cls := "FrameMachineLaw", name := "comes", desc := "(LFrameMachine;I[J)I" } : Jvm.MethodName)) ∈ lw_tbl := zk_4 (List.mem_of_getElem? (i := 27) rfl)
theorem kw_748 : (Jvm.Cond.static ({ cls := "FrameMachineLaw", name := "comes", desc := "(LFrameMachine;I[J)I" } : Jvm.MethodName)) ∈ lw_tbl := zk_4 (List.mem_of_getElem? (i := 28) rfl)
theorem kw_749 : (Jvm.Cond.codeWith ({ cls := "FrameMachineLaw", name := "comes", desc := "(LFrameMachine;I[J)I" } : Jvm.MethodName) method_7_code (4 : Nat) (Option.some Jvm.ClassFile.FieldType.int) [((0 : Nat), (16 : Nat), (19 : Nat), (13 : Nat))]) ∈ lw_tbl := zk_4 (List.mem_of_getElem? (i := 29) rfl)
theorem kw_1064 : (Jvm.Cond.methodLink "FrameMachineLaw" (62 : Nat) ({ cls := "FrameMachineModel", name := "comes", desc := "(I)Z" } : Jvm.MethodName)) ∈ lw_tbl := zk_5 (List.mem_of_getElem? (i := 104) rfl)
theorem kw_1065 : (Jvm.Cond.instanceMethod ({ cls := "FrameMachineModel", name := "comes", desc := "(I)Z" } : Jvm.MethodName)) ∈ lw_tbl := zk_5 (List.mem_of_getElem? (i := 105) rfl)
theorem kw_1066 : (Jvm.Cond.selects "FrameMachineModel" ({ cls := "FrameMachineModel", name := "comes", desc := "(I)Z" } : Jvm.MethodName) ({ cls := "FrameMachineModel", name := "comes", desc := "(I)Z" } : Jvm.MethodName)) ∈ lw_tbl := zk_5 (List.mem_of_getElem? (i := 106) rfl)
theorem kw_1067 : (Jvm.Cond.code ({ cls := "FrameMachineModel", name := "comes", desc := "(I)Z" } : Jvm.MethodName) prog_12_method_47_code (3 : Nat) (Option.some Jvm.ClassFile.FieldType.boolean)) ∈ lw_tbl := zk_5 (List.mem_of_getElem? (i := 107) rfl)
theorem kc_L_62 : zCV "FrameMachineLaw" 62 y_M_comes b_M_comes 3 (some .boolean) 1 := ⟨⟨kw_1064, kw_1065, kw_1066, kw_11, kw_1067⟩, by decide +kernel, by decide +kernel, by decide +kernel⟩
theorem kw_318 : (Jvm.Cond.methodLink "FrameMachineLaw" (63 : Nat) ({ cls := "FrameMachine", name := "reset", desc := "()I" } : Jvm.MethodName)) ∈ lw_tbl := zk_2 (List.mem_of_getElem? (i := 78) rfl)
theorem kw_319 : (Jvm.Cond.instanceMethod ({ cls := "FrameMachine", name := "reset", desc := "()I" } : Jvm.MethodName)) ∈ lw_tbl := zk_2 (List.mem_of_getElem? (i := 79) rfl)
theorem kw_320 : (Jvm.Cond.selects "FrameMachine" ({ cls := "FrameMachine", name := "reset", desc := "()I" } : Jvm.MethodName) ({ cls := "FrameMachine", name := "reset", desc := "()I" } : Jvm.MethodName)) ∈ lw_tbl := zk_2 (List.mem_of_getElem? (i := 80) rfl)
theorem kw_321 : (Jvm.Cond.code ({ cls := "FrameMachine", name := "reset", desc := "()I" } : Jvm.MethodName) prog_1_method_8_code (1 : Nat) (Option.some Jvm.ClassFile.FieldType.int)) ∈ lw_tbl := zk_2 (List.mem_of_getElem? (i := 81) rfl)
theorem kc_L_63 : zCV "FrameMachineLaw" 63 y_F_reset b_F_reset 1 (some .int) 0 := ⟨⟨kw_318, kw_319, kw_320, kw_1, kw_321⟩, by decide +kernel, by decide +kernel, by decide +kernel⟩
theorem kw_1068 : (Jvm.Cond.methodLink "FrameMachineLaw" (66 : Nat) ({ cls := "FrameMachineModel", name := "reset", desc := "()I" } : Jvm.MethodName)) ∈ lw_tbl := zk_5 (List.mem_of_getElem? (i := 108) rfl)
theorem kw_1069 : (Jvm.Cond.instanceMethod ({ cls := "FrameMachineModel", name := "reset", desc := "()I" } : Jvm.MethodName)) ∈ lw_tbl := zk_5 (List.mem_of_getElem? (i := 109) rfl)
theorem kw_1070 : (Jvm.Cond.selects "FrameMachineModel" ({ cls := "FrameMachineModel", name := "reset", desc := "()I" } : Jvm.MethodName) ({ cls := "FrameMachineModel", name := "reset", desc := "()I" } : Jvm.MethodName)) ∈ lw_tbl := zk_5 (List.mem_of_getElem? (i := 110) rfl)
theorem kw_1071 : (Jvm.Cond.code ({ cls := "FrameMachineModel", name := "reset", desc := "()I" } : Jvm.MethodName) prog_12_method_48_code (1 : Nat) (Option.some Jvm.ClassFile.FieldType.int)) ∈ lw_tbl := zk_5 (List.mem_of_getElem? (i := 111) rfl)
theorem kc_L_66 : zCV "FrameMachineLaw" 66 y_M_reset b_M_reset 1 (some .int) 0 := ⟨⟨kw_1068, kw_1069, kw_1070, kw_11, kw_1071⟩, by decide +kernel, by decide +kernel, by decide +kernel⟩
theorem kw_759 : (Jvm.Cond.methodLink "FrameMachineLaw" (67 : Nat) ({ cls := "FrameMachineLaw", name := "get", desc := "(LFrameMachine;I[J)I" } : Jvm.MethodName)) ∈ lw_tbl := zk_4 (List.mem_of_getElem? (i := 39) rfl)
theorem kw_760 : (Jvm.Cond.static ({ cls := "FrameMachineLaw", name := "get", desc := "(LFrameMachine;I[J)I" } : Jvm.MethodName)) ∈ lw_tbl := zk_4 (List.mem_of_getElem? (i := 40) rfl)
theorem kw_761 : (Jvm.Cond.codeWith ({ cls := "FrameMachineLaw", name := "get", desc := "(LFrameMachine;I[J)I" } : Jvm.MethodName) method_8_code (4 : Nat) (Option.some Jvm.ClassFile.FieldType.int) [((0 : Nat), (9 : Nat), (12 : Nat), (13 : Nat))]) ∈ lw_tbl := zk_4 (List.mem_of_getElem? (i := 41) rfl)
theorem kw_1092 : (Jvm.Cond.methodLink "FrameMachineLaw" (69 : Nat) ({ cls := "FrameMachineModel", name := "get", desc := "(I)I" } : Jvm.MethodName)) ∈ lw_tbl := zk_5 (List.mem_of_getElem? (i := 132) rfl)
theorem kw_1093 : (Jvm.Cond.instanceMethod ({ cls := "FrameMachineModel", name := "get", desc := "(I)I" } : Jvm.MethodName)) ∈ lw_tbl := zk_5 (List.mem_of_getElem? (i := 133) rfl)
theorem kw_1094 : (Jvm.Cond.selects "FrameMachineModel" ({ cls := "FrameMachineModel", name := "get", desc := "(I)I" } : Jvm.MethodName) ({ cls := "FrameMachineModel", name := "get", desc := "(I)I" } : Jvm.MethodName)) ∈ lw_tbl := zk_5 (List.mem_of_getElem? (i := 134) rfl)
theorem kw_1095 : (Jvm.Cond.code ({ cls := "FrameMachineModel", name := "get", desc := "(I)I" } : Jvm.MethodName) prog_12_method_54_code (2 : Nat) (Option.some Jvm.ClassFile.FieldType.int)) ∈ lw_tbl := zk_5 (List.mem_of_getElem? (i := 135) rfl)
theorem kc_L_69 : zCV "FrameMachineLaw" 69 y_M_get b_M_get 2 (some .int) 1 := ⟨⟨kw_1092, kw_1093, kw_1094, kw_11, kw_1095⟩, by decide +kernel, by decide +kernel, by decide +kernel⟩
theorem kw_341 : (Jvm.Cond.methodLink "FrameMachineLaw" (70 : Nat) ({ cls := "FrameMachine", name := "gone", desc := "(I)I" } : Jvm.MethodName)) ∈ lw_tbl := zk_2 (List.mem_of_getElem? (i := 101) rfl)
theorem kw_342 : (Jvm.Cond.instanceMethod ({ cls := "FrameMachine", name := "gone", desc := "(I)I" } : Jvm.MethodName)) ∈ lw_tbl := zk_2 (List.mem_of_getElem? (i := 102) rfl)
theorem kw_343 : (Jvm.Cond.selects "FrameMachine" ({ cls := "FrameMachine", name := "gone", desc := "(I)I" } : Jvm.MethodName) ({ cls := "FrameMachine", name := "gone", desc := "(I)I" } : Jvm.MethodName)) ∈ lw_tbl := zk_2 (List.mem_of_getElem? (i := 103) rfl)
theorem kw_344 : (Jvm.Cond.code ({ cls := "FrameMachine", name := "gone", desc := "(I)I" } : Jvm.MethodName) prog_1_method_10_code (2 : Nat) (Option.some Jvm.ClassFile.FieldType.int)) ∈ lw_tbl := zk_2 (List.mem_of_getElem? (i := 104) rfl)
theorem kc_L_70 : zCV "FrameMachineLaw" 70 y_F_gone b_F_gone 2 (some .int) 1 := ⟨⟨kw_341, kw_342, kw_343, kw_1, kw_344⟩, by decide +kernel, by decide +kernel, by decide +kernel⟩
theorem kw_1096 : (Jvm.Cond.methodLink "FrameMachineLaw" (73 : Nat) ({ cls := "FrameMachineModel", name := "gone", desc := "(I)I" } : Jvm.MethodName)) ∈ lw_tbl := zk_5 (List.mem_of_getElem? (i := 136) rfl)
theorem kw_1097 : (Jvm.Cond.instanceMethod ({ cls := "FrameMachineModel", name := "gone", desc := "(I)I" } : Jvm.MethodName)) ∈ lw_tbl := zk_5 (List.mem_of_getElem? (i := 137) rfl)
theorem kw_1098 : (Jvm.Cond.selects "FrameMachineModel" ({ cls := "FrameMachineModel", name := "gone", desc := "(I)I" } : Jvm.MethodName) ({ cls := "FrameMachineModel", name := "gone", desc := "(I)I" } : Jvm.MethodName)) ∈ lw_tbl := zk_5 (List.mem_of_getElem? (i := 138) rfl)
theorem kw_1099 : (Jvm.Cond.code ({ cls := "FrameMachineModel", name := "gone", desc := "(I)I" } : Jvm.MethodName) prog_12_method_55_code (2 : Nat) (Option.some Jvm.ClassFile.FieldType.int)) ∈ lw_tbl := zk_5 (List.mem_of_getElem? (i := 139) rfl)
theorem kc_L_73 : zCV "FrameMachineLaw" 73 y_M_gone b_M_gone 2 (some .int) 1 := ⟨⟨kw_1096, kw_1097, kw_1098, kw_11, kw_1099⟩, by decide +kernel, by decide +kernel, by decide +kernel⟩
theorem kw_349 : (Jvm.Cond.methodLink "FrameMachineLaw" (74 : Nat) ({ cls := "FrameMachine", name := "about", desc := "(I)I" } : Jvm.MethodName)) ∈ lw_tbl := zk_2 (List.mem_of_getElem? (i := 109) rfl)
theorem kw_350 : (Jvm.Cond.instanceMethod ({ cls := "FrameMachine", name := "about", desc := "(I)I" } : Jvm.MethodName)) ∈ lw_tbl := zk_2 (List.mem_of_getElem? (i := 110) rfl)
theorem kw_351 : (Jvm.Cond.selects "FrameMachine" ({ cls := "FrameMachine", name := "about", desc := "(I)I" } : Jvm.MethodName) ({ cls := "FrameMachine", name := "about", desc := "(I)I" } : Jvm.MethodName)) ∈ lw_tbl := zk_2 (List.mem_of_getElem? (i := 111) rfl)
theorem kw_352 : (Jvm.Cond.code ({ cls := "FrameMachine", name := "about", desc := "(I)I" } : Jvm.MethodName) prog_1_method_11_code (2 : Nat) (Option.some Jvm.ClassFile.FieldType.int)) ∈ lw_tbl := zk_2 (List.mem_of_getElem? (i := 112) rfl)
theorem kc_L_74 : zCV "FrameMachineLaw" 74 y_F_about b_F_about 2 (some .int) 1 := ⟨⟨kw_349, kw_350, kw_351, kw_1, kw_352⟩, by decide +kernel, by decide +kernel, by decide +kernel⟩
theorem kw_1100 : (Jvm.Cond.methodLink "FrameMachineLaw" (77 : Nat) ({ cls := "FrameMachineModel", name := "about", desc := "(I)I" } : Jvm.MethodName)) ∈ lw_tbl := zk_5 (List.mem_of_getElem? (i := 140) rfl)
theorem kw_1101 : (Jvm.Cond.instanceMethod ({ cls := "FrameMachineModel", name := "about", desc := "(I)I" } : Jvm.MethodName)) ∈ lw_tbl := zk_5 (List.mem_of_getElem? (i := 141) rfl)
theorem kw_1102 : (Jvm.Cond.selects "FrameMachineModel" ({ cls := "FrameMachineModel", name := "about", desc := "(I)I" } : Jvm.MethodName) ({ cls := "FrameMachineModel", name := "about", desc := "(I)I" } : Jvm.MethodName)) ∈ lw_tbl := zk_5 (List.mem_of_getElem? (i := 142) rfl)
theorem kw_1103 : (Jvm.Cond.code ({ cls := "FrameMachineModel", name := "about", desc := "(I)I" } : Jvm.MethodName) prog_12_method_56_code (2 : Nat) (Option.some Jvm.ClassFile.FieldType.int)) ∈ lw_tbl := zk_5 (List.mem_of_getElem? (i := 143) rfl)
theorem kc_L_77 : zCV "FrameMachineLaw" 77 y_M_about b_M_about 2 (some .int) 1 := ⟨⟨kw_1100, kw_1101, kw_1102, kw_11, kw_1103⟩, by decide +kernel, by decide +kernel, by decide +kernel⟩
theorem kd_L_law_20 : decode code 20 = .ok (.iconst 0, 1) := by decide +kernel
theorem kd_L_law_21 : decode code 21 = .ok (.istore 4, 2) := by decide +kernel
theorem kd_L_law_23 : decode code 23 = .ok (.iload 4, 2) := by decide +kernel
theorem kd_L_law_25 : decode code 25 = .ok (.aload_n 0, 1) := by decide +kernel
theorem kd_L_law_26 : decode code 26 = .ok (.arraylength, 1) := by decide +kernel
theorem kd_L_law_27 : decode code 27 = .ok (.iconst 3, 1) := by decide +kernel
theorem kd_L_law_28 : decode code 28 = .ok (.isub, 1) := by decide +kernel
theorem kd_L_law_29 : decode code 29 = .ok (.if_icmp .gt 538, 3) := by decide +kernel
theorem kd_L_law_32 : decode code 32 = .ok (.aload_n 0, 1) := by decide +kernel
theorem kd_L_law_33 : decode code 33 = .ok (.iload 4, 2) := by decide +kernel
theorem kd_L_law_35 : decode code 35 = .ok (.iaload, 1) := by decide +kernel
theorem kd_L_law_36 : decode code 36 = .ok (.bipush 15, 2) := by decide +kernel
theorem kd_L_law_38 : decode code 38 = .ok (.iand, 1) := by decide +kernel
theorem kd_L_law_39 : decode code 39 = .ok (.tableswitch 522 0 9 #[53, 128, 184, 259, 284, 340, 403, 416, 472, 497], 53) := by decide +kernel
theorem kd_L_law_92 : decode code 92 = .ok (.aload_n 1, 1) := by decide +kernel
theorem kd_L_law_93 : decode code 93 = .ok (.aload_n 0, 1) := by decide +kernel
theorem kd_L_law_94 : decode code 94 = .ok (.iload 4, 2) := by decide +kernel
theorem kd_L_law_96 : decode code 96 = .ok (.iconst 1, 1) := by decide +kernel
theorem kd_L_law_97 : decode code 97 = .ok (.iadd, 1) := by decide +kernel
theorem kd_L_law_98 : decode code 98 = .ok (.iaload, 1) := by decide +kernel
theorem kd_L_law_99 : decode code 99 = .ok (.aload_n 0, 1) := by decide +kernel
theorem kd_L_law_100 : decode code 100 = .ok (.iload 4, 2) := by decide +kernel
theorem kd_L_law_102 : decode code 102 = .ok (.iconst 2, 1) := by decide +kernel
theorem kd_L_law_103 : decode code 103 = .ok (.iadd, 1) := by decide +kernel
theorem kd_L_law_104 : decode code 104 = .ok (.iaload, 1) := by decide +kernel
theorem kd_L_law_105 : decode code 105 = .ok (.aload_n 3, 1) := by decide +kernel
theorem kd_L_law_106 : decode code 106 = .ok (.invokestatic 36, 3) := by decide +kernel
theorem kd_L_law_109 : decode code 109 = .ok (.istore 5, 2) := by decide +kernel
theorem kd_L_law_111 : decode code 111 = .ok (.aload_n 2, 1) := by decide +kernel
theorem kd_L_law_112 : decode code 112 = .ok (.aload_n 0, 1) := by decide +kernel
theorem kd_L_law_113 : decode code 113 = .ok (.iload 4, 2) := by decide +kernel
theorem kd_L_law_115 : decode code 115 = .ok (.iconst 1, 1) := by decide +kernel
theorem kd_L_law_116 : decode code 116 = .ok (.iadd, 1) := by decide +kernel
theorem kd_L_law_117 : decode code 117 = .ok (.iaload, 1) := by decide +kernel
theorem kd_L_law_118 : decode code 118 = .ok (.aload_n 0, 1) := by decide +kernel
theorem kd_L_law_119 : decode code 119 = .ok (.iload 4, 2) := by decide +kernel
theorem kd_L_law_121 : decode code 121 = .ok (.iconst 2, 1) := by decide +kernel
theorem kd_L_law_122 : decode code 122 = .ok (.iadd, 1) := by decide +kernel
theorem kd_L_law_123 : decode code 123 = .ok (.iaload, 1) := by decide +kernel
theorem kd_L_law_124 : decode code 124 = .ok (.invokevirtual 41, 3) := by decide +kernel
theorem kd_L_law_127 : decode code 127 = .ok (.istore 6, 2) := by decide +kernel
theorem kd_L_law_129 : decode code 129 = .ok (.aload_n 2, 1) := by decide +kernel
theorem kd_L_law_130 : decode code 130 = .ok (.invokevirtual 42, 3) := by decide +kernel
theorem kd_L_law_133 : decode code 133 = .ok (.iload 5, 2) := by decide +kernel
theorem kd_L_law_135 : decode code 135 = .ok (.if_icmp .eq 5, 3) := by decide +kernel
theorem kd_L_law_138 : decode code 138 = .ok (.iconst 0, 1) := by decide +kernel
theorem kd_L_law_139 : decode code 139 = .ok (.ireturn, 1) := by decide +kernel
theorem kd_L_law_140 : decode code 140 = .ok (.iload 5, 2) := by decide +kernel
theorem kd_L_law_142 : decode code 142 = .ok (.ifCond .ne 22, 3) := by decide +kernel
theorem kd_L_law_145 : decode code 145 = .ok (.aload_n 3, 1) := by decide +kernel
theorem kd_L_law_146 : decode code 146 = .ok (.iconst 0, 1) := by decide +kernel
theorem kd_L_law_147 : decode code 147 = .ok (.laload, 1) := by decide +kernel
theorem kd_L_law_148 : decode code 148 = .ok (.iload 6, 2) := by decide +kernel
theorem kd_L_law_150 : decode code 150 = .ok (.ifCond .eq 7, 3) := by decide +kernel
theorem kd_L_law_153 : decode code 153 = .ok (.lconst 1, 1) := by decide +kernel
theorem kd_L_law_154 : decode code 154 = .ok (.goto 4, 3) := by decide +kernel
theorem kd_L_law_157 : decode code 157 = .ok (.lconst 0, 1) := by decide +kernel
theorem kd_L_law_158 : decode code 158 = .ok (.lcmp, 1) := by decide +kernel
theorem kd_L_law_159 : decode code 159 = .ok (.ifCond .eq 5, 3) := by decide +kernel
theorem kd_L_law_162 : decode code 162 = .ok (.iconst 0, 1) := by decide +kernel
theorem kd_L_law_163 : decode code 163 = .ok (.ireturn, 1) := by decide +kernel
theorem kd_L_law_164 : decode code 164 = .ok (.goto 397, 3) := by decide +kernel
theorem kd_L_law_167 : decode code 167 = .ok (.aload_n 1, 1) := by decide +kernel
theorem kd_L_law_168 : decode code 168 = .ok (.aload_n 0, 1) := by decide +kernel
theorem kd_L_law_169 : decode code 169 = .ok (.iload 4, 2) := by decide +kernel
theorem kd_L_law_171 : decode code 171 = .ok (.iconst 1, 1) := by decide +kernel
theorem kd_L_law_172 : decode code 172 = .ok (.iadd, 1) := by decide +kernel
theorem kd_L_law_173 : decode code 173 = .ok (.iaload, 1) := by decide +kernel
theorem kd_L_law_174 : decode code 174 = .ok (.aload_n 3, 1) := by decide +kernel
theorem kd_L_law_175 : decode code 175 = .ok (.invokestatic 46, 3) := by decide +kernel
theorem kd_L_law_178 : decode code 178 = .ok (.istore 5, 2) := by decide +kernel
theorem kd_L_law_180 : decode code 180 = .ok (.aload_n 2, 1) := by decide +kernel
theorem kd_L_law_181 : decode code 181 = .ok (.aload_n 0, 1) := by decide +kernel
theorem kd_L_law_182 : decode code 182 = .ok (.iload 4, 2) := by decide +kernel
theorem kd_L_law_184 : decode code 184 = .ok (.iconst 1, 1) := by decide +kernel
theorem kd_L_law_185 : decode code 185 = .ok (.iadd, 1) := by decide +kernel
theorem kd_L_law_186 : decode code 186 = .ok (.iaload, 1) := by decide +kernel
theorem kd_L_law_187 : decode code 187 = .ok (.invokevirtual 49, 3) := by decide +kernel
theorem kd_L_law_190 : decode code 190 = .ok (.istore 6, 2) := by decide +kernel
theorem kd_L_law_192 : decode code 192 = .ok (.aload_n 2, 1) := by decide +kernel
theorem kd_L_law_193 : decode code 193 = .ok (.invokevirtual 42, 3) := by decide +kernel
theorem kd_L_law_196 : decode code 196 = .ok (.iload 5, 2) := by decide +kernel
theorem kd_L_law_198 : decode code 198 = .ok (.if_icmp .eq 5, 3) := by decide +kernel
theorem kd_L_law_201 : decode code 201 = .ok (.iconst 0, 1) := by decide +kernel
theorem kd_L_law_202 : decode code 202 = .ok (.ireturn, 1) := by decide +kernel
theorem kd_L_law_203 : decode code 203 = .ok (.iload 5, 2) := by decide +kernel
theorem kd_L_law_205 : decode code 205 = .ok (.ifCond .ne 15, 3) := by decide +kernel
theorem kd_L_law_208 : decode code 208 = .ok (.aload_n 3, 1) := by decide +kernel
theorem kd_L_law_209 : decode code 209 = .ok (.iconst 0, 1) := by decide +kernel
theorem kd_L_law_210 : decode code 210 = .ok (.laload, 1) := by decide +kernel
theorem kd_L_law_211 : decode code 211 = .ok (.iload 6, 2) := by decide +kernel
theorem kd_L_law_213 : decode code 213 = .ok (.i2l, 1) := by decide +kernel
theorem kd_L_law_214 : decode code 214 = .ok (.lcmp, 1) := by decide +kernel
theorem kd_L_law_215 : decode code 215 = .ok (.ifCond .eq 5, 3) := by decide +kernel
theorem kd_L_law_218 : decode code 218 = .ok (.iconst 0, 1) := by decide +kernel
theorem kd_L_law_219 : decode code 219 = .ok (.ireturn, 1) := by decide +kernel
theorem kd_L_law_220 : decode code 220 = .ok (.goto 341, 3) := by decide +kernel
theorem kd_L_law_223 : decode code 223 = .ok (.aload_n 1, 1) := by decide +kernel
theorem kd_L_law_224 : decode code 224 = .ok (.aload_n 0, 1) := by decide +kernel
theorem kd_L_law_225 : decode code 225 = .ok (.iload 4, 2) := by decide +kernel
theorem kd_L_law_227 : decode code 227 = .ok (.iconst 1, 1) := by decide +kernel
theorem kd_L_law_228 : decode code 228 = .ok (.iadd, 1) := by decide +kernel
theorem kd_L_law_229 : decode code 229 = .ok (.iaload, 1) := by decide +kernel
theorem kd_L_law_230 : decode code 230 = .ok (.aload_n 0, 1) := by decide +kernel
theorem kd_L_law_231 : decode code 231 = .ok (.iload 4, 2) := by decide +kernel
theorem kd_L_law_233 : decode code 233 = .ok (.iconst 2, 1) := by decide +kernel
theorem kd_L_law_234 : decode code 234 = .ok (.iadd, 1) := by decide +kernel
theorem kd_L_law_235 : decode code 235 = .ok (.iaload, 1) := by decide +kernel
theorem kd_L_law_236 : decode code 236 = .ok (.aload_n 3, 1) := by decide +kernel
theorem kd_L_law_237 : decode code 237 = .ok (.invokestatic 50, 3) := by decide +kernel
theorem kd_L_law_240 : decode code 240 = .ok (.istore 5, 2) := by decide +kernel
theorem kd_L_law_242 : decode code 242 = .ok (.aload_n 2, 1) := by decide +kernel
theorem kd_L_law_243 : decode code 243 = .ok (.aload_n 0, 1) := by decide +kernel
theorem kd_L_law_244 : decode code 244 = .ok (.iload 4, 2) := by decide +kernel
theorem kd_L_law_246 : decode code 246 = .ok (.iconst 1, 1) := by decide +kernel
theorem kd_L_law_247 : decode code 247 = .ok (.iadd, 1) := by decide +kernel
theorem kd_L_law_248 : decode code 248 = .ok (.iaload, 1) := by decide +kernel
theorem kd_L_law_249 : decode code 249 = .ok (.aload_n 0, 1) := by decide +kernel
theorem kd_L_law_250 : decode code 250 = .ok (.iload 4, 2) := by decide +kernel
theorem kd_L_law_252 : decode code 252 = .ok (.iconst 2, 1) := by decide +kernel
theorem kd_L_law_253 : decode code 253 = .ok (.iadd, 1) := by decide +kernel
theorem kd_L_law_254 : decode code 254 = .ok (.iaload, 1) := by decide +kernel
theorem kd_L_law_255 : decode code 255 = .ok (.invokevirtual 52, 3) := by decide +kernel
theorem kd_L_law_258 : decode code 258 = .ok (.istore 6, 2) := by decide +kernel
theorem kd_L_law_260 : decode code 260 = .ok (.aload_n 2, 1) := by decide +kernel
theorem kd_L_law_261 : decode code 261 = .ok (.invokevirtual 42, 3) := by decide +kernel
theorem kd_L_law_264 : decode code 264 = .ok (.iload 5, 2) := by decide +kernel
theorem kd_L_law_266 : decode code 266 = .ok (.if_icmp .eq 5, 3) := by decide +kernel
theorem kd_L_law_269 : decode code 269 = .ok (.iconst 0, 1) := by decide +kernel
theorem kd_L_law_270 : decode code 270 = .ok (.ireturn, 1) := by decide +kernel
theorem kd_L_law_271 : decode code 271 = .ok (.iload 5, 2) := by decide +kernel
theorem kd_L_law_273 : decode code 273 = .ok (.ifCond .ne 22, 3) := by decide +kernel
theorem kd_L_law_276 : decode code 276 = .ok (.aload_n 3, 1) := by decide +kernel
theorem kd_L_law_277 : decode code 277 = .ok (.iconst 0, 1) := by decide +kernel
theorem kd_L_law_278 : decode code 278 = .ok (.laload, 1) := by decide +kernel
theorem kd_L_law_279 : decode code 279 = .ok (.iload 6, 2) := by decide +kernel
theorem kd_L_law_281 : decode code 281 = .ok (.ifCond .eq 7, 3) := by decide +kernel
theorem kd_L_law_284 : decode code 284 = .ok (.lconst 1, 1) := by decide +kernel
theorem kd_L_law_285 : decode code 285 = .ok (.goto 4, 3) := by decide +kernel
theorem kd_L_law_288 : decode code 288 = .ok (.lconst 0, 1) := by decide +kernel
theorem kd_L_law_289 : decode code 289 = .ok (.lcmp, 1) := by decide +kernel
theorem kd_L_law_290 : decode code 290 = .ok (.ifCond .eq 5, 3) := by decide +kernel
theorem kd_L_law_293 : decode code 293 = .ok (.iconst 0, 1) := by decide +kernel
theorem kd_L_law_294 : decode code 294 = .ok (.ireturn, 1) := by decide +kernel
theorem kd_L_law_295 : decode code 295 = .ok (.goto 266, 3) := by decide +kernel
theorem kd_L_law_298 : decode code 298 = .ok (.aload_n 1, 1) := by decide +kernel
theorem kd_L_law_299 : decode code 299 = .ok (.aload_n 0, 1) := by decide +kernel
theorem kd_L_law_300 : decode code 300 = .ok (.iload 4, 2) := by decide +kernel
theorem kd_L_law_302 : decode code 302 = .ok (.iconst 1, 1) := by decide +kernel
theorem kd_L_law_303 : decode code 303 = .ok (.iadd, 1) := by decide +kernel
theorem kd_L_law_304 : decode code 304 = .ok (.iaload, 1) := by decide +kernel
theorem kd_L_law_305 : decode code 305 = .ok (.invokevirtual 53, 3) := by decide +kernel
theorem kd_L_law_308 : decode code 308 = .ok (.aload_n 2, 1) := by decide +kernel
theorem kd_L_law_309 : decode code 309 = .ok (.aload_n 0, 1) := by decide +kernel
theorem kd_L_law_310 : decode code 310 = .ok (.iload 4, 2) := by decide +kernel
theorem kd_L_law_312 : decode code 312 = .ok (.iconst 1, 1) := by decide +kernel
theorem kd_L_law_313 : decode code 313 = .ok (.iadd, 1) := by decide +kernel
theorem kd_L_law_314 : decode code 314 = .ok (.iaload, 1) := by decide +kernel
theorem kd_L_law_315 : decode code 315 = .ok (.invokevirtual 56, 3) := by decide +kernel
theorem kd_L_law_318 : decode code 318 = .ok (.if_icmp .eq 243, 3) := by decide +kernel
theorem kd_L_law_321 : decode code 321 = .ok (.iconst 0, 1) := by decide +kernel
theorem kd_L_law_322 : decode code 322 = .ok (.ireturn, 1) := by decide +kernel
theorem kd_L_law_323 : decode code 323 = .ok (.aload_n 1, 1) := by decide +kernel
theorem kd_L_law_324 : decode code 324 = .ok (.aload_n 0, 1) := by decide +kernel
theorem kd_L_law_325 : decode code 325 = .ok (.iload 4, 2) := by decide +kernel
theorem kd_L_law_327 : decode code 327 = .ok (.iconst 1, 1) := by decide +kernel
theorem kd_L_law_328 : decode code 328 = .ok (.iadd, 1) := by decide +kernel
theorem kd_L_law_329 : decode code 329 = .ok (.iaload, 1) := by decide +kernel
theorem kd_L_law_330 : decode code 330 = .ok (.aload_n 3, 1) := by decide +kernel
theorem kd_L_law_331 : decode code 331 = .ok (.invokestatic 57, 3) := by decide +kernel
theorem kd_L_law_334 : decode code 334 = .ok (.istore 5, 2) := by decide +kernel
theorem kd_L_law_336 : decode code 336 = .ok (.aload_n 2, 1) := by decide +kernel
theorem kd_L_law_337 : decode code 337 = .ok (.aload_n 0, 1) := by decide +kernel
theorem kd_L_law_338 : decode code 338 = .ok (.iload 4, 2) := by decide +kernel
theorem kd_L_law_340 : decode code 340 = .ok (.iconst 1, 1) := by decide +kernel
theorem kd_L_law_341 : decode code 341 = .ok (.iadd, 1) := by decide +kernel
theorem kd_L_law_342 : decode code 342 = .ok (.iaload, 1) := by decide +kernel
theorem kd_L_law_343 : decode code 343 = .ok (.invokevirtual 59, 3) := by decide +kernel
theorem kd_L_law_346 : decode code 346 = .ok (.istore 6, 2) := by decide +kernel
theorem kd_L_law_348 : decode code 348 = .ok (.aload_n 2, 1) := by decide +kernel
theorem kd_L_law_349 : decode code 349 = .ok (.invokevirtual 42, 3) := by decide +kernel
theorem kd_L_law_352 : decode code 352 = .ok (.iload 5, 2) := by decide +kernel
theorem kd_L_law_354 : decode code 354 = .ok (.if_icmp .eq 5, 3) := by decide +kernel
theorem kd_L_law_357 : decode code 357 = .ok (.iconst 0, 1) := by decide +kernel
theorem kd_L_law_358 : decode code 358 = .ok (.ireturn, 1) := by decide +kernel
theorem kd_L_law_359 : decode code 359 = .ok (.iload 5, 2) := by decide +kernel
theorem kd_L_law_361 : decode code 361 = .ok (.ifCond .ne 15, 3) := by decide +kernel
theorem kd_L_law_364 : decode code 364 = .ok (.aload_n 3, 1) := by decide +kernel
theorem kd_L_law_365 : decode code 365 = .ok (.iconst 0, 1) := by decide +kernel
theorem kd_L_law_366 : decode code 366 = .ok (.laload, 1) := by decide +kernel
theorem kd_L_law_367 : decode code 367 = .ok (.iload 6, 2) := by decide +kernel
theorem kd_L_law_369 : decode code 369 = .ok (.i2l, 1) := by decide +kernel
theorem kd_L_law_370 : decode code 370 = .ok (.lcmp, 1) := by decide +kernel
theorem kd_L_law_371 : decode code 371 = .ok (.ifCond .eq 5, 3) := by decide +kernel
theorem kd_L_law_374 : decode code 374 = .ok (.iconst 0, 1) := by decide +kernel
theorem kd_L_law_375 : decode code 375 = .ok (.ireturn, 1) := by decide +kernel
theorem kd_L_law_376 : decode code 376 = .ok (.goto 185, 3) := by decide +kernel
theorem kd_L_law_379 : decode code 379 = .ok (.aload_n 1, 1) := by decide +kernel
theorem kd_L_law_380 : decode code 380 = .ok (.aload_n 0, 1) := by decide +kernel
theorem kd_L_law_381 : decode code 381 = .ok (.iload 4, 2) := by decide +kernel
theorem kd_L_law_383 : decode code 383 = .ok (.iconst 1, 1) := by decide +kernel
theorem kd_L_law_384 : decode code 384 = .ok (.iadd, 1) := by decide +kernel
theorem kd_L_law_385 : decode code 385 = .ok (.iaload, 1) := by decide +kernel
theorem kd_L_law_386 : decode code 386 = .ok (.aload_n 3, 1) := by decide +kernel
theorem kd_L_law_387 : decode code 387 = .ok (.invokestatic 60, 3) := by decide +kernel
theorem kd_L_law_390 : decode code 390 = .ok (.istore 5, 2) := by decide +kernel
theorem kd_L_law_392 : decode code 392 = .ok (.aload_n 2, 1) := by decide +kernel
theorem kd_L_law_393 : decode code 393 = .ok (.aload_n 0, 1) := by decide +kernel
theorem kd_L_law_394 : decode code 394 = .ok (.iload 4, 2) := by decide +kernel
theorem kd_L_law_396 : decode code 396 = .ok (.iconst 1, 1) := by decide +kernel
theorem kd_L_law_397 : decode code 397 = .ok (.iadd, 1) := by decide +kernel
theorem kd_L_law_398 : decode code 398 = .ok (.iaload, 1) := by decide +kernel
theorem kd_L_law_399 : decode code 399 = .ok (.invokevirtual 62, 3) := by decide +kernel
theorem kd_L_law_402 : decode code 402 = .ok (.istore 6, 2) := by decide +kernel
theorem kd_L_law_404 : decode code 404 = .ok (.aload_n 2, 1) := by decide +kernel
theorem kd_L_law_405 : decode code 405 = .ok (.invokevirtual 42, 3) := by decide +kernel
theorem kd_L_law_408 : decode code 408 = .ok (.iload 5, 2) := by decide +kernel
theorem kd_L_law_410 : decode code 410 = .ok (.if_icmp .eq 5, 3) := by decide +kernel
theorem kd_L_law_413 : decode code 413 = .ok (.iconst 0, 1) := by decide +kernel
theorem kd_L_law_414 : decode code 414 = .ok (.ireturn, 1) := by decide +kernel
theorem kd_L_law_415 : decode code 415 = .ok (.iload 5, 2) := by decide +kernel
theorem kd_L_law_417 : decode code 417 = .ok (.ifCond .ne 22, 3) := by decide +kernel
theorem kd_L_law_420 : decode code 420 = .ok (.aload_n 3, 1) := by decide +kernel
theorem kd_L_law_421 : decode code 421 = .ok (.iconst 0, 1) := by decide +kernel
theorem kd_L_law_422 : decode code 422 = .ok (.laload, 1) := by decide +kernel
theorem kd_L_law_423 : decode code 423 = .ok (.iload 6, 2) := by decide +kernel
theorem kd_L_law_425 : decode code 425 = .ok (.ifCond .eq 7, 3) := by decide +kernel
theorem kd_L_law_428 : decode code 428 = .ok (.lconst 1, 1) := by decide +kernel
theorem kd_L_law_429 : decode code 429 = .ok (.goto 4, 3) := by decide +kernel
theorem kd_L_law_432 : decode code 432 = .ok (.lconst 0, 1) := by decide +kernel
theorem kd_L_law_433 : decode code 433 = .ok (.lcmp, 1) := by decide +kernel
theorem kd_L_law_434 : decode code 434 = .ok (.ifCond .eq 5, 3) := by decide +kernel
theorem kd_L_law_437 : decode code 437 = .ok (.iconst 0, 1) := by decide +kernel
theorem kd_L_law_438 : decode code 438 = .ok (.ireturn, 1) := by decide +kernel
theorem kd_L_law_439 : decode code 439 = .ok (.goto 122, 3) := by decide +kernel
theorem kd_L_law_442 : decode code 442 = .ok (.aload_n 1, 1) := by decide +kernel
theorem kd_L_law_443 : decode code 443 = .ok (.invokevirtual 63, 3) := by decide +kernel
theorem kd_L_law_446 : decode code 446 = .ok (.aload_n 2, 1) := by decide +kernel
theorem kd_L_law_447 : decode code 447 = .ok (.invokevirtual 66, 3) := by decide +kernel
theorem kd_L_law_450 : decode code 450 = .ok (.if_icmp .eq 111, 3) := by decide +kernel
theorem kd_L_law_453 : decode code 453 = .ok (.iconst 0, 1) := by decide +kernel
theorem kd_L_law_454 : decode code 454 = .ok (.ireturn, 1) := by decide +kernel
theorem kd_L_law_455 : decode code 455 = .ok (.aload_n 1, 1) := by decide +kernel
theorem kd_L_law_456 : decode code 456 = .ok (.aload_n 0, 1) := by decide +kernel
theorem kd_L_law_457 : decode code 457 = .ok (.iload 4, 2) := by decide +kernel
theorem kd_L_law_459 : decode code 459 = .ok (.iconst 1, 1) := by decide +kernel
theorem kd_L_law_460 : decode code 460 = .ok (.iadd, 1) := by decide +kernel
theorem kd_L_law_461 : decode code 461 = .ok (.iaload, 1) := by decide +kernel
theorem kd_L_law_462 : decode code 462 = .ok (.aload_n 3, 1) := by decide +kernel
theorem kd_L_law_463 : decode code 463 = .ok (.invokestatic 67, 3) := by decide +kernel
theorem kd_L_law_466 : decode code 466 = .ok (.istore 5, 2) := by decide +kernel
theorem kd_L_law_468 : decode code 468 = .ok (.aload_n 2, 1) := by decide +kernel
theorem kd_L_law_469 : decode code 469 = .ok (.aload_n 0, 1) := by decide +kernel
theorem kd_L_law_470 : decode code 470 = .ok (.iload 4, 2) := by decide +kernel
theorem kd_L_law_472 : decode code 472 = .ok (.iconst 1, 1) := by decide +kernel
theorem kd_L_law_473 : decode code 473 = .ok (.iadd, 1) := by decide +kernel
theorem kd_L_law_474 : decode code 474 = .ok (.iaload, 1) := by decide +kernel
theorem kd_L_law_475 : decode code 475 = .ok (.invokevirtual 69, 3) := by decide +kernel
theorem kd_L_law_478 : decode code 478 = .ok (.istore 6, 2) := by decide +kernel
theorem kd_L_law_480 : decode code 480 = .ok (.aload_n 2, 1) := by decide +kernel
theorem kd_L_law_481 : decode code 481 = .ok (.invokevirtual 42, 3) := by decide +kernel
theorem kd_L_law_484 : decode code 484 = .ok (.iload 5, 2) := by decide +kernel
theorem kd_L_law_486 : decode code 486 = .ok (.if_icmp .eq 5, 3) := by decide +kernel
theorem kd_L_law_489 : decode code 489 = .ok (.iconst 0, 1) := by decide +kernel
theorem kd_L_law_490 : decode code 490 = .ok (.ireturn, 1) := by decide +kernel
theorem kd_L_law_491 : decode code 491 = .ok (.iload 5, 2) := by decide +kernel
theorem kd_L_law_493 : decode code 493 = .ok (.ifCond .ne 15, 3) := by decide +kernel
theorem kd_L_law_496 : decode code 496 = .ok (.aload_n 3, 1) := by decide +kernel
theorem kd_L_law_497 : decode code 497 = .ok (.iconst 0, 1) := by decide +kernel
theorem kd_L_law_498 : decode code 498 = .ok (.laload, 1) := by decide +kernel
theorem kd_L_law_499 : decode code 499 = .ok (.iload 6, 2) := by decide +kernel
theorem kd_L_law_501 : decode code 501 = .ok (.i2l, 1) := by decide +kernel
theorem kd_L_law_502 : decode code 502 = .ok (.lcmp, 1) := by decide +kernel
theorem kd_L_law_503 : decode code 503 = .ok (.ifCond .eq 5, 3) := by decide +kernel
theorem kd_L_law_506 : decode code 506 = .ok (.iconst 0, 1) := by decide +kernel
theorem kd_L_law_507 : decode code 507 = .ok (.ireturn, 1) := by decide +kernel
theorem kd_L_law_508 : decode code 508 = .ok (.goto 53, 3) := by decide +kernel
theorem kd_L_law_511 : decode code 511 = .ok (.aload_n 1, 1) := by decide +kernel
theorem kd_L_law_512 : decode code 512 = .ok (.aload_n 0, 1) := by decide +kernel
theorem kd_L_law_513 : decode code 513 = .ok (.iload 4, 2) := by decide +kernel
theorem kd_L_law_515 : decode code 515 = .ok (.iconst 1, 1) := by decide +kernel
theorem kd_L_law_516 : decode code 516 = .ok (.iadd, 1) := by decide +kernel
theorem kd_L_law_517 : decode code 517 = .ok (.iaload, 1) := by decide +kernel
theorem kd_L_law_518 : decode code 518 = .ok (.invokevirtual 70, 3) := by decide +kernel
theorem kd_L_law_521 : decode code 521 = .ok (.aload_n 2, 1) := by decide +kernel
theorem kd_L_law_522 : decode code 522 = .ok (.aload_n 0, 1) := by decide +kernel
theorem kd_L_law_523 : decode code 523 = .ok (.iload 4, 2) := by decide +kernel
theorem kd_L_law_525 : decode code 525 = .ok (.iconst 1, 1) := by decide +kernel
theorem kd_L_law_526 : decode code 526 = .ok (.iadd, 1) := by decide +kernel
theorem kd_L_law_527 : decode code 527 = .ok (.iaload, 1) := by decide +kernel
theorem kd_L_law_528 : decode code 528 = .ok (.invokevirtual 73, 3) := by decide +kernel
theorem kd_L_law_531 : decode code 531 = .ok (.if_icmp .eq 30, 3) := by decide +kernel
theorem kd_L_law_534 : decode code 534 = .ok (.iconst 0, 1) := by decide +kernel
theorem kd_L_law_535 : decode code 535 = .ok (.ireturn, 1) := by decide +kernel
theorem kd_L_law_536 : decode code 536 = .ok (.aload_n 1, 1) := by decide +kernel
theorem kd_L_law_537 : decode code 537 = .ok (.aload_n 0, 1) := by decide +kernel
theorem kd_L_law_538 : decode code 538 = .ok (.iload 4, 2) := by decide +kernel
theorem kd_L_law_540 : decode code 540 = .ok (.iconst 1, 1) := by decide +kernel
theorem kd_L_law_541 : decode code 541 = .ok (.iadd, 1) := by decide +kernel
theorem kd_L_law_542 : decode code 542 = .ok (.iaload, 1) := by decide +kernel
theorem kd_L_law_543 : decode code 543 = .ok (.invokevirtual 74, 3) := by decide +kernel
theorem kd_L_law_546 : decode code 546 = .ok (.aload_n 2, 1) := by decide +kernel
theorem kd_L_law_547 : decode code 547 = .ok (.aload_n 0, 1) := by decide +kernel
theorem kd_L_law_548 : decode code 548 = .ok (.iload 4, 2) := by decide +kernel
theorem kd_L_law_550 : decode code 550 = .ok (.iconst 1, 1) := by decide +kernel
theorem kd_L_law_551 : decode code 551 = .ok (.iadd, 1) := by decide +kernel
theorem kd_L_law_552 : decode code 552 = .ok (.iaload, 1) := by decide +kernel
theorem kd_L_law_553 : decode code 553 = .ok (.invokevirtual 77, 3) := by decide +kernel
theorem kd_L_law_556 : decode code 556 = .ok (.if_icmp .eq 5, 3) := by decide +kernel
theorem kd_L_law_559 : decode code 559 = .ok (.iconst 0, 1) := by decide +kernel
theorem kd_L_law_560 : decode code 560 = .ok (.ireturn, 1) := by decide +kernel
theorem kd_L_law_561 : decode code 561 = .ok (.iinc 4 3, 3) := by decide +kernel
theorem kd_L_law_564 : decode code 564 = .ok (.goto (-541), 3) := by decide +kernel
theorem kd_L_law_567 : decode code 567 = .ok (.iconst 1, 1) := by decide +kernel
theorem kd_L_law_568 : decode code 568 = .ok (.ireturn, 1) := by decide +kernel
theorem zl_fin {E : ZE} {P PM : ZP} {ao : Nat} {cJ : ClassId} {cc : ByteArray} {nL : Nat} {F : Unit → State → Prop} {cells slots pc : Nat} {L : List (Nat × Value)} {σ : ZS × ZS}
    (hfin : ∀ (pc : Nat) (H : Heap) (ls : Array Slot), decode cc pc = .ok (.ireturn, 1) → W E.1 E.2.1 E.2.2.1 E.2.2.2.1 E.2.2.2.2.1 E.2.2.2.2.2.1 E.2.2.2.2.2.2.1 E.2.2.2.2.2.2.2.1 E.2.2.2.2.2.2.2.2.1 E.2.2.2.2.2.2.2.2.2 H [] 1050 10436 (F ()) (F0 E.2.2.2.2.2.1 pc ls [.int 1])) (hcl : cells ≤ 1050) (hsl : slots ≤ 10436) (d : decode cc pc = .ok (.ireturn, 1)) : ZL E (zI E P PM ao cJ) nL F cells slots pc L [.int 1] σ (some ()) := by
  intro z hz H locs ls hl hI
  exact va_forget (fun q hq => hI.2.2.2.2 q hq) (W.widen hcl hsl (hfin pc H ls d))
noncomputable def f_L_law_561 (xs : Nat → Int32) (Ls : Nat) (K : (ZS × ZS) → Int32 → Option (Unit)) (s0 : (ZS × ZS)) (l4 : Int32) : Option (Unit) :=
  zs_nm (l4 + 3) fun v9 =>
  K s0 v9
noncomputable def f_L_law_164 (xs : Nat → Int32) (Ls : Nat) (K : (ZS × ZS) → Int32 → Option (Unit)) (s0 : (ZS × ZS)) (l4 : Int32) : Option (Unit) :=
  f_L_law_561 xs Ls K s0 l4
noncomputable def f_L_law_158 (xs : Nat → Int32) (Ls : Nat) (K : (ZS × ZS) → Int32 → Option (Unit)) (s0 : (ZS × ZS)) (l4 : Int32) (t0 : Int64) (t1 : Int64) : Option (Unit) :=
  if (lg_cmp t1 t0) = 0 then
    f_L_law_164 xs Ls K s0 l4
  else
    none
noncomputable def f_L_law_220 (xs : Nat → Int32) (Ls : Nat) (K : (ZS × ZS) → Int32 → Option (Unit)) (s0 : (ZS × ZS)) (l4 : Int32) : Option (Unit) :=
  f_L_law_561 xs Ls K s0 l4
noncomputable def f_L_law_295 (xs : Nat → Int32) (Ls : Nat) (K : (ZS × ZS) → Int32 → Option (Unit)) (s0 : (ZS × ZS)) (l4 : Int32) : Option (Unit) :=
  f_L_law_561 xs Ls K s0 l4
noncomputable def f_L_law_289 (xs : Nat → Int32) (Ls : Nat) (K : (ZS × ZS) → Int32 → Option (Unit)) (s0 : (ZS × ZS)) (l4 : Int32) (t0 : Int64) (t1 : Int64) : Option (Unit) :=
  if (lg_cmp t1 t0) = 0 then
    f_L_law_295 xs Ls K s0 l4
  else
    none
noncomputable def f_L_law_376 (xs : Nat → Int32) (Ls : Nat) (K : (ZS × ZS) → Int32 → Option (Unit)) (s0 : (ZS × ZS)) (l4 : Int32) : Option (Unit) :=
  f_L_law_561 xs Ls K s0 l4
noncomputable def f_L_law_439 (xs : Nat → Int32) (Ls : Nat) (K : (ZS × ZS) → Int32 → Option (Unit)) (s0 : (ZS × ZS)) (l4 : Int32) : Option (Unit) :=
  f_L_law_561 xs Ls K s0 l4
noncomputable def f_L_law_433 (xs : Nat → Int32) (Ls : Nat) (K : (ZS × ZS) → Int32 → Option (Unit)) (s0 : (ZS × ZS)) (l4 : Int32) (t0 : Int64) (t1 : Int64) : Option (Unit) :=
  if (lg_cmp t1 t0) = 0 then
    f_L_law_439 xs Ls K s0 l4
  else
    none
noncomputable def f_L_law_508 (xs : Nat → Int32) (Ls : Nat) (K : (ZS × ZS) → Int32 → Option (Unit)) (s0 : (ZS × ZS)) (l4 : Int32) : Option (Unit) :=
  f_L_law_561 xs Ls K s0 l4
noncomputable def f_L_law_23 (xs : Nat → Int32) (Ls : Nat) : Nat → (ZS × ZS) → Int32 → Option (Unit)
  | 0, _, _ => none
  | n+1, s0, l4 =>
    if ((Int32.ofNat Ls) - 3) < l4 then
      some ()
    else
      if l4 < 0 ∨ Ls ≤ l4.toNatClampNeg then none else
      zs_nm ((xs l4.toNatClampNeg) &&& 15) fun v1 =>
      if v1 = 0 then
        zs_nm (l4 + 1) fun v2 =>
        if v2 < 0 ∨ Ls ≤ v2.toNatClampNeg then none else
        zs_nm (l4 + 2) fun v3 =>
        if v3 < 0 ∨ Ls ≤ v3.toNatClampNeg then none else
        (f_F_poke s0.1 (xs v2.toNatClampNeg) (xs v3.toNatClampNeg)).bind fun z => zs_nm (zr_b s0.1 z) fun p4 =>
        zs_nm (l4 + 1) fun v5 =>
        if v5 < 0 ∨ Ls ≤ v5.toNatClampNeg then none else
        zs_nm (l4 + 2) fun v6 =>
        if v6 < 0 ∨ Ls ≤ v6.toNatClampNeg then none else
        (f_M_poke ((p4.2, s0.2)).2 (xs v5.toNatClampNeg) (xs v6.toNatClampNeg)).bind fun p7 =>
        (f_M_thrown ((((p4.2, s0.2)).1, p7.2)).2 ).bind fun p8 =>
        if p8.1 = p4.1 then
          if p4.1 = 0 then
            if p7.1 = 0 then
              f_L_law_158 xs Ls (f_L_law_23 xs Ls n) ((((((p4.2, s0.2)).1, p7.2)).1, p8.2)) l4 0 (((((((((p4.2, s0.2)).1, p7.2)).1, p8.2)).1 5 0).toInt64))
            else
              f_L_law_158 xs Ls (f_L_law_23 xs Ls n) ((((((p4.2, s0.2)).1, p7.2)).1, p8.2)) l4 1 (((((((((p4.2, s0.2)).1, p7.2)).1, p8.2)).1 5 0).toInt64))
          else
            f_L_law_164 xs Ls (f_L_law_23 xs Ls n) ((((((p4.2, s0.2)).1, p7.2)).1, p8.2)) l4
        else
          none
      else if v1 = 1 then
        zs_nm (l4 + 1) fun v10 =>
        if v10 < 0 ∨ Ls ≤ v10.toNatClampNeg then none else
        (f_F_peek s0.1 (xs v10.toNatClampNeg)).bind fun z => zs_nm (zr_i s0.1 z) fun p11 =>
        zs_nm (l4 + 1) fun v12 =>
        if v12 < 0 ∨ Ls ≤ v12.toNatClampNeg then none else
        (f_M_peek ((p11.2, s0.2)).2 (xs v12.toNatClampNeg)).bind fun p13 =>
        (f_M_thrown ((((p11.2, s0.2)).1, p13.2)).2 ).bind fun p14 =>
        if p14.1 = p11.1 then
          if p11.1 = 0 then
            if (lg_cmp ((((((((p11.2, s0.2)).1, p13.2)).1, p14.2)).1 5 0).toInt64) (p13.1.toInt64)) = 0 then
              f_L_law_220 xs Ls (f_L_law_23 xs Ls n) ((((((p11.2, s0.2)).1, p13.2)).1, p14.2)) l4
            else
              none
          else
            f_L_law_220 xs Ls (f_L_law_23 xs Ls n) ((((((p11.2, s0.2)).1, p13.2)).1, p14.2)) l4
        else
          none
      else if v1 = 2 then
        zs_nm (l4 + 1) fun v15 =>
        if v15 < 0 ∨ Ls ≤ v15.toNatClampNeg then none else
        zs_nm (l4 + 2) fun v16 =>
        if v16 < 0 ∨ Ls ≤ v16.toNatClampNeg then none else
        (f_F_set s0.1 (xs v15.toNatClampNeg) (xs v16.toNatClampNeg)).bind fun z => zs_nm (zr_b s0.1 z) fun p17 =>
        zs_nm (l4 + 1) fun v18 =>
        if v18 < 0 ∨ Ls ≤ v18.toNatClampNeg then none else
        zs_nm (l4 + 2) fun v19 =>
        if v19 < 0 ∨ Ls ≤ v19.toNatClampNeg then none else
        (f_M_set ((p17.2, s0.2)).2 (xs v18.toNatClampNeg) (xs v19.toNatClampNeg)).bind fun p20 =>
        (f_M_thrown ((((p17.2, s0.2)).1, p20.2)).2 ).bind fun p21 =>
        if p21.1 = p17.1 then
          if p17.1 = 0 then
            if p20.1 = 0 then
              f_L_law_289 xs Ls (f_L_law_23 xs Ls n) ((((((p17.2, s0.2)).1, p20.2)).1, p21.2)) l4 0 (((((((((p17.2, s0.2)).1, p20.2)).1, p21.2)).1 5 0).toInt64))
            else
              f_L_law_289 xs Ls (f_L_law_23 xs Ls n) ((((((p17.2, s0.2)).1, p20.2)).1, p21.2)) l4 1 (((((((((p17.2, s0.2)).1, p20.2)).1, p21.2)).1 5 0).toInt64))
          else
            f_L_law_295 xs Ls (f_L_law_23 xs Ls n) ((((((p17.2, s0.2)).1, p20.2)).1, p21.2)) l4
        else
          none
      else if v1 = 3 then
        zs_nm (l4 + 1) fun v22 =>
        if v22 < 0 ∨ Ls ≤ v22.toNatClampNeg then none else
        (f_F_status s0.1 (xs v22.toNatClampNeg)).bind fun p23 =>
        zs_nm (l4 + 1) fun v24 =>
        if v24 < 0 ∨ Ls ≤ v24.toNatClampNeg then none else
        (f_M_status ((zs_mix p23.2 s0.1, s0.2)).2 (xs v24.toNatClampNeg)).bind fun p25 =>
        if p23.1 = p25.1 then
          f_L_law_561 xs Ls (f_L_law_23 xs Ls n) ((((zs_mix p23.2 s0.1, s0.2)).1, p25.2)) l4
        else
          none
      else if v1 = 4 then
        zs_nm (l4 + 1) fun v26 =>
        if v26 < 0 ∨ Ls ≤ v26.toNatClampNeg then none else
        (f_F_run s0.1 (xs v26.toNatClampNeg)).bind fun z => zs_nm (zr_i s0.1 z) fun p27 =>
        zs_nm (l4 + 1) fun v28 =>
        if v28 < 0 ∨ Ls ≤ v28.toNatClampNeg then none else
        (f_M_run ((p27.2, s0.2)).2 (xs v28.toNatClampNeg)).bind fun p29 =>
        (f_M_thrown ((((p27.2, s0.2)).1, p29.2)).2 ).bind fun p30 =>
        if p30.1 = p27.1 then
          if p27.1 = 0 then
            if (lg_cmp ((((((((p27.2, s0.2)).1, p29.2)).1, p30.2)).1 5 0).toInt64) (p29.1.toInt64)) = 0 then
              f_L_law_376 xs Ls (f_L_law_23 xs Ls n) ((((((p27.2, s0.2)).1, p29.2)).1, p30.2)) l4
            else
              none
          else
            f_L_law_376 xs Ls (f_L_law_23 xs Ls n) ((((((p27.2, s0.2)).1, p29.2)).1, p30.2)) l4
        else
          none
      else if v1 = 5 then
        zs_nm (l4 + 1) fun v31 =>
        if v31 < 0 ∨ Ls ≤ v31.toNatClampNeg then none else
        (f_F_comes s0.1 (xs v31.toNatClampNeg)).bind fun z => zs_nm (zr_b s0.1 z) fun p32 =>
        zs_nm (l4 + 1) fun v33 =>
        if v33 < 0 ∨ Ls ≤ v33.toNatClampNeg then none else
        (f_M_comes ((p32.2, s0.2)).2 (xs v33.toNatClampNeg)).bind fun p34 =>
        (f_M_thrown ((((p32.2, s0.2)).1, p34.2)).2 ).bind fun p35 =>
        if p35.1 = p32.1 then
          if p32.1 = 0 then
            if p34.1 = 0 then
              f_L_law_433 xs Ls (f_L_law_23 xs Ls n) ((((((p32.2, s0.2)).1, p34.2)).1, p35.2)) l4 0 (((((((((p32.2, s0.2)).1, p34.2)).1, p35.2)).1 5 0).toInt64))
            else
              f_L_law_433 xs Ls (f_L_law_23 xs Ls n) ((((((p32.2, s0.2)).1, p34.2)).1, p35.2)) l4 1 (((((((((p32.2, s0.2)).1, p34.2)).1, p35.2)).1 5 0).toInt64))
          else
            f_L_law_439 xs Ls (f_L_law_23 xs Ls n) ((((((p32.2, s0.2)).1, p34.2)).1, p35.2)) l4
        else
          none
      else if v1 = 6 then
        (f_F_reset s0.1 ).bind fun p36 =>
        (f_M_reset ((zs_mix p36.2 s0.1, s0.2)).2 ).bind fun p37 =>
        if p36.1 = p37.1 then
          f_L_law_561 xs Ls (f_L_law_23 xs Ls n) ((((zs_mix p36.2 s0.1, s0.2)).1, p37.2)) l4
        else
          none
      else if v1 = 7 then
        zs_nm (l4 + 1) fun v38 =>
        if v38 < 0 ∨ Ls ≤ v38.toNatClampNeg then none else
        (f_F_get s0.1 (xs v38.toNatClampNeg)).bind fun z => zs_nm (zr_i s0.1 z) fun p39 =>
        zs_nm (l4 + 1) fun v40 =>
        if v40 < 0 ∨ Ls ≤ v40.toNatClampNeg then none else
        (f_M_get ((p39.2, s0.2)).2 (xs v40.toNatClampNeg)).bind fun p41 =>
        (f_M_thrown ((((p39.2, s0.2)).1, p41.2)).2 ).bind fun p42 =>
        if p42.1 = p39.1 then
          if p39.1 = 0 then
            if (lg_cmp ((((((((p39.2, s0.2)).1, p41.2)).1, p42.2)).1 5 0).toInt64) (p41.1.toInt64)) = 0 then
              f_L_law_508 xs Ls (f_L_law_23 xs Ls n) ((((((p39.2, s0.2)).1, p41.2)).1, p42.2)) l4
            else
              none
          else
            f_L_law_508 xs Ls (f_L_law_23 xs Ls n) ((((((p39.2, s0.2)).1, p41.2)).1, p42.2)) l4
        else
          none
      else if v1 = 8 then
        zs_nm (l4 + 1) fun v43 =>
        if v43 < 0 ∨ Ls ≤ v43.toNatClampNeg then none else
        (f_F_gone s0.1 (xs v43.toNatClampNeg)).bind fun p44 =>
        zs_nm (l4 + 1) fun v45 =>
        if v45 < 0 ∨ Ls ≤ v45.toNatClampNeg then none else
        (f_M_gone ((zs_mix p44.2 s0.1, s0.2)).2 (xs v45.toNatClampNeg)).bind fun p46 =>
        if p44.1 = p46.1 then
          f_L_law_561 xs Ls (f_L_law_23 xs Ls n) ((((zs_mix p44.2 s0.1, s0.2)).1, p46.2)) l4
        else
          none
      else if v1 = 9 then
        zs_nm (l4 + 1) fun v47 =>
        if v47 < 0 ∨ Ls ≤ v47.toNatClampNeg then none else
        (f_F_about s0.1 (xs v47.toNatClampNeg)).bind fun p48 =>
        zs_nm (l4 + 1) fun v49 =>
        if v49 < 0 ∨ Ls ≤ v49.toNatClampNeg then none else
        (f_M_about ((zs_mix p48.2 s0.1, s0.2)).2 (xs v49.toNatClampNeg)).bind fun p50 =>
        if p48.1 = p50.1 then
          f_L_law_561 xs Ls (f_L_law_23 xs Ls n) ((((zs_mix p48.2 s0.1, s0.2)).1, p50.2)) l4
        else
          none
      else 
        f_L_law_561 xs Ls (f_L_law_23 xs Ls n) s0 l4
theorem j_L_law_561 {E : ZE} {P PM : ZP} {ao : Nat} {cJ : ClassId} {b Ls : Nat} {xs : Nat → Int32} {F : Unit → State → Prop} (X : ZX0 E "FrameMachineLaw" code 7 ret 10 251) (Z : ZQ E P PM ao cJ b Ls xs) (hfin : ∀ (pc : Nat) (H : Heap) (ls : Array Slot), decode code pc = .ok (.ireturn, 1) → W E.1 E.2.1 E.2.2.1 E.2.2.2.1 E.2.2.2.2.1 E.2.2.2.2.2.1 E.2.2.2.2.2.2.1 E.2.2.2.2.2.2.2.1 E.2.2.2.2.2.2.2.2.1 E.2.2.2.2.2.2.2.2.2 H [] 1050 10436 (F ()) (F0 E.2.2.2.2.2.1 pc ls [.int 1])) {cells slots : Nat} (hc : cells + 1 ≤ 1050) (hs : slots + 6 ≤ 10436) (K : ZS × ZS → Int32 → Option Unit) (hK : ∀ (s0 : ZS × ZS) (l4 : Int32), ZL E (zI E P PM ao cJ) 7 F (cells + 1) (slots + 6) 23 [(0, .ref b), (1, .ref (P.1 0)), (2, .ref (PM.1 0)), (3, .ref ao), (4, .int l4)] [] s0 (K s0 l4)) (s0 : ZS × ZS) (l4 : Int32) : ZL E (zI E P PM ao cJ) 7 F (cells + 1) (slots + 6) 561 [(0, .ref b), (1, .ref (P.1 0)), (2, .ref (PM.1 0)), (3, .ref ao), (4, .int l4)] [] s0 (f_L_law_561 xs Ls K s0 l4) := by
  unfold f_L_law_561
  refine zl_iinc 564 4 3 (fun v9 => [(4, .int v9), (0, .ref b), (1, .ref (P.1 0)), (2, .ref (PM.1 0)), (3, .ref ao)]) X kd_L_law_561 ki_3 rfl (Nat.le_of_ble_eq_true rfl) (fun _ => rfl) rfl (fun v9 => ?_)
  refine zl_goto 23 X kd_L_law_564 rfl ?_
  refine zl_loc [1, 2, 3, 4, 0] (L2 := [(0, .ref b), (1, .ref (P.1 0)), (2, .ref (PM.1 0)), (3, .ref ao), (4, .int v9)]) rfl ?_
  exact hK s0 v9
theorem j_L_law_164 {E : ZE} {P PM : ZP} {ao : Nat} {cJ : ClassId} {b Ls : Nat} {xs : Nat → Int32} {F : Unit → State → Prop} (X : ZX0 E "FrameMachineLaw" code 7 ret 10 251) (Z : ZQ E P PM ao cJ b Ls xs) (hfin : ∀ (pc : Nat) (H : Heap) (ls : Array Slot), decode code pc = .ok (.ireturn, 1) → W E.1 E.2.1 E.2.2.1 E.2.2.2.1 E.2.2.2.2.1 E.2.2.2.2.2.1 E.2.2.2.2.2.2.1 E.2.2.2.2.2.2.2.1 E.2.2.2.2.2.2.2.2.1 E.2.2.2.2.2.2.2.2.2 H [] 1050 10436 (F ()) (F0 E.2.2.2.2.2.1 pc ls [.int 1])) {cells slots : Nat} (hc : cells + 1 ≤ 1050) (hs : slots + 6 ≤ 10436) (K : ZS × ZS → Int32 → Option Unit) (hK : ∀ (s0 : ZS × ZS) (l4 : Int32), ZL E (zI E P PM ao cJ) 7 F (cells + 1) (slots + 6) 23 [(0, .ref b), (1, .ref (P.1 0)), (2, .ref (PM.1 0)), (3, .ref ao), (4, .int l4)] [] s0 (K s0 l4)) (s0 : ZS × ZS) (l4 : Int32) : ZL E (zI E P PM ao cJ) 7 F (cells + 1) (slots + 6) 164 [(0, .ref b), (1, .ref (P.1 0)), (2, .ref (PM.1 0)), (3, .ref ao), (4, .int l4)] [] s0 (f_L_law_164 xs Ls K s0 l4) := by
  unfold f_L_law_164
  refine zl_goto 561 X kd_L_law_164 rfl ?_
  exact j_L_law_561 X Z hfin hc hs K hK s0 l4
theorem j_L_law_158 {E : ZE} {P PM : ZP} {ao : Nat} {cJ : ClassId} {b Ls : Nat} {xs : Nat → Int32} {F : Unit → State → Prop} (X : ZX0 E "FrameMachineLaw" code 7 ret 10 251) (Z : ZQ E P PM ao cJ b Ls xs) (hfin : ∀ (pc : Nat) (H : Heap) (ls : Array Slot), decode code pc = .ok (.ireturn, 1) → W E.1 E.2.1 E.2.2.1 E.2.2.2.1 E.2.2.2.2.1 E.2.2.2.2.2.1 E.2.2.2.2.2.2.1 E.2.2.2.2.2.2.2.1 E.2.2.2.2.2.2.2.2.1 E.2.2.2.2.2.2.2.2.2 H [] 1050 10436 (F ()) (F0 E.2.2.2.2.2.1 pc ls [.int 1])) {cells slots : Nat} (hc : cells + 1 ≤ 1050) (hs : slots + 6 ≤ 10436) (K : ZS × ZS → Int32 → Option Unit) (hK : ∀ (s0 : ZS × ZS) (l4 : Int32), ZL E (zI E P PM ao cJ) 7 F (cells + 1) (slots + 6) 23 [(0, .ref b), (1, .ref (P.1 0)), (2, .ref (PM.1 0)), (3, .ref ao), (4, .int l4)] [] s0 (K s0 l4)) (s0 : ZS × ZS) (l4 : Int32) (t0 : Int64) (t1 : Int64) : ZL E (zI E P PM ao cJ) 7 F (cells + 1) (slots + 6) 158 [(0, .ref b), (1, .ref (P.1 0)), (2, .ref (PM.1 0)), (3, .ref ao), (4, .int l4)] [.long t0, .long t1] s0 (f_L_law_158 xs Ls K s0 l4 t0 t1) := by
  unfold f_L_law_158
  refine zl_lcmp 159 X kd_L_law_158 rfl ?_
  refine zl_if_eq 164 162 X kd_L_law_159 rfl rfl (fun _ => ?_) (fun _ => ?_)
  · exact j_L_law_164 X Z hfin hc hs K hK s0 l4
  · exact zl_none
theorem j_L_law_220 {E : ZE} {P PM : ZP} {ao : Nat} {cJ : ClassId} {b Ls : Nat} {xs : Nat → Int32} {F : Unit → State → Prop} (X : ZX0 E "FrameMachineLaw" code 7 ret 10 251) (Z : ZQ E P PM ao cJ b Ls xs) (hfin : ∀ (pc : Nat) (H : Heap) (ls : Array Slot), decode code pc = .ok (.ireturn, 1) → W E.1 E.2.1 E.2.2.1 E.2.2.2.1 E.2.2.2.2.1 E.2.2.2.2.2.1 E.2.2.2.2.2.2.1 E.2.2.2.2.2.2.2.1 E.2.2.2.2.2.2.2.2.1 E.2.2.2.2.2.2.2.2.2 H [] 1050 10436 (F ()) (F0 E.2.2.2.2.2.1 pc ls [.int 1])) {cells slots : Nat} (hc : cells + 1 ≤ 1050) (hs : slots + 6 ≤ 10436) (K : ZS × ZS → Int32 → Option Unit) (hK : ∀ (s0 : ZS × ZS) (l4 : Int32), ZL E (zI E P PM ao cJ) 7 F (cells + 1) (slots + 6) 23 [(0, .ref b), (1, .ref (P.1 0)), (2, .ref (PM.1 0)), (3, .ref ao), (4, .int l4)] [] s0 (K s0 l4)) (s0 : ZS × ZS) (l4 : Int32) : ZL E (zI E P PM ao cJ) 7 F (cells + 1) (slots + 6) 220 [(0, .ref b), (1, .ref (P.1 0)), (2, .ref (PM.1 0)), (3, .ref ao), (4, .int l4)] [] s0 (f_L_law_220 xs Ls K s0 l4) := by
  unfold f_L_law_220
  refine zl_goto 561 X kd_L_law_220 rfl ?_
  exact j_L_law_561 X Z hfin hc hs K hK s0 l4
theorem j_L_law_295 {E : ZE} {P PM : ZP} {ao : Nat} {cJ : ClassId} {b Ls : Nat} {xs : Nat → Int32} {F : Unit → State → Prop} (X : ZX0 E "FrameMachineLaw" code 7 ret 10 251) (Z : ZQ E P PM ao cJ b Ls xs) (hfin : ∀ (pc : Nat) (H : Heap) (ls : Array Slot), decode code pc = .ok (.ireturn, 1) → W E.1 E.2.1 E.2.2.1 E.2.2.2.1 E.2.2.2.2.1 E.2.2.2.2.2.1 E.2.2.2.2.2.2.1 E.2.2.2.2.2.2.2.1 E.2.2.2.2.2.2.2.2.1 E.2.2.2.2.2.2.2.2.2 H [] 1050 10436 (F ()) (F0 E.2.2.2.2.2.1 pc ls [.int 1])) {cells slots : Nat} (hc : cells + 1 ≤ 1050) (hs : slots + 6 ≤ 10436) (K : ZS × ZS → Int32 → Option Unit) (hK : ∀ (s0 : ZS × ZS) (l4 : Int32), ZL E (zI E P PM ao cJ) 7 F (cells + 1) (slots + 6) 23 [(0, .ref b), (1, .ref (P.1 0)), (2, .ref (PM.1 0)), (3, .ref ao), (4, .int l4)] [] s0 (K s0 l4)) (s0 : ZS × ZS) (l4 : Int32) : ZL E (zI E P PM ao cJ) 7 F (cells + 1) (slots + 6) 295 [(0, .ref b), (1, .ref (P.1 0)), (2, .ref (PM.1 0)), (3, .ref ao), (4, .int l4)] [] s0 (f_L_law_295 xs Ls K s0 l4) := by
  unfold f_L_law_295
  refine zl_goto 561 X kd_L_law_295 rfl ?_
  exact j_L_law_561 X Z hfin hc hs K hK s0 l4
theorem j_L_law_289 {E : ZE} {P PM : ZP} {ao : Nat} {cJ : ClassId} {b Ls : Nat} {xs : Nat → Int32} {F : Unit → State → Prop} (X : ZX0 E "FrameMachineLaw" code 7 ret 10 251) (Z : ZQ E P PM ao cJ b Ls xs) (hfin : ∀ (pc : Nat) (H : Heap) (ls : Array Slot), decode code pc = .ok (.ireturn, 1) → W E.1 E.2.1 E.2.2.1 E.2.2.2.1 E.2.2.2.2.1 E.2.2.2.2.2.1 E.2.2.2.2.2.2.1 E.2.2.2.2.2.2.2.1 E.2.2.2.2.2.2.2.2.1 E.2.2.2.2.2.2.2.2.2 H [] 1050 10436 (F ()) (F0 E.2.2.2.2.2.1 pc ls [.int 1])) {cells slots : Nat} (hc : cells + 1 ≤ 1050) (hs : slots + 6 ≤ 10436) (K : ZS × ZS → Int32 → Option Unit) (hK : ∀ (s0 : ZS × ZS) (l4 : Int32), ZL E (zI E P PM ao cJ) 7 F (cells + 1) (slots + 6) 23 [(0, .ref b), (1, .ref (P.1 0)), (2, .ref (PM.1 0)), (3, .ref ao), (4, .int l4)] [] s0 (K s0 l4)) (s0 : ZS × ZS) (l4 : Int32) (t0 : Int64) (t1 : Int64) : ZL E (zI E P PM ao cJ) 7 F (cells + 1) (slots + 6) 289 [(0, .ref b), (1, .ref (P.1 0)), (2, .ref (PM.1 0)), (3, .ref ao), (4, .int l4)] [.long t0, .long t1] s0 (f_L_law_289 xs Ls K s0 l4 t0 t1) := by
  unfold f_L_law_289
  refine zl_lcmp 290 X kd_L_law_289 rfl ?_
  refine zl_if_eq 295 293 X kd_L_law_290 rfl rfl (fun _ => ?_) (fun _ => ?_)
  · exact j_L_law_295 X Z hfin hc hs K hK s0 l4
  · exact zl_none
theorem j_L_law_376 {E : ZE} {P PM : ZP} {ao : Nat} {cJ : ClassId} {b Ls : Nat} {xs : Nat → Int32} {F : Unit → State → Prop} (X : ZX0 E "FrameMachineLaw" code 7 ret 10 251) (Z : ZQ E P PM ao cJ b Ls xs) (hfin : ∀ (pc : Nat) (H : Heap) (ls : Array Slot), decode code pc = .ok (.ireturn, 1) → W E.1 E.2.1 E.2.2.1 E.2.2.2.1 E.2.2.2.2.1 E.2.2.2.2.2.1 E.2.2.2.2.2.2.1 E.2.2.2.2.2.2.2.1 E.2.2.2.2.2.2.2.2.1 E.2.2.2.2.2.2.2.2.2 H [] 1050 10436 (F ()) (F0 E.2.2.2.2.2.1 pc ls [.int 1])) {cells slots : Nat} (hc : cells + 1 ≤ 1050) (hs : slots + 6 ≤ 10436) (K : ZS × ZS → Int32 → Option Unit) (hK : ∀ (s0 : ZS × ZS) (l4 : Int32), ZL E (zI E P PM ao cJ) 7 F (cells + 1) (slots + 6) 23 [(0, .ref b), (1, .ref (P.1 0)), (2, .ref (PM.1 0)), (3, .ref ao), (4, .int l4)] [] s0 (K s0 l4)) (s0 : ZS × ZS) (l4 : Int32) : ZL E (zI E P PM ao cJ) 7 F (cells + 1) (slots + 6) 376 [(0, .ref b), (1, .ref (P.1 0)), (2, .ref (PM.1 0)), (3, .ref ao), (4, .int l4)] [] s0 (f_L_law_376 xs Ls K s0 l4) := by
  unfold f_L_law_376
  refine zl_goto 561 X kd_L_law_376 rfl ?_
  exact j_L_law_561 X Z hfin hc hs K hK s0 l4
theorem j_L_law_439 {E : ZE} {P PM : ZP} {ao : Nat} {cJ : ClassId} {b Ls : Nat} {xs : Nat → Int32} {F : Unit → State → Prop} (X : ZX0 E "FrameMachineLaw" code 7 ret 10 251) (Z : ZQ E P PM ao cJ b Ls xs) (hfin : ∀ (pc : Nat) (H : Heap) (ls : Array Slot), decode code pc = .ok (.ireturn, 1) → W E.1 E.2.1 E.2.2.1 E.2.2.2.1 E.2.2.2.2.1 E.2.2.2.2.2.1 E.2.2.2.2.2.2.1 E.2.2.2.2.2.2.2.1 E.2.2.2.2.2.2.2.2.1 E.2.2.2.2.2.2.2.2.2 H [] 1050 10436 (F ()) (F0 E.2.2.2.2.2.1 pc ls [.int 1])) {cells slots : Nat} (hc : cells + 1 ≤ 1050) (hs : slots + 6 ≤ 10436) (K : ZS × ZS → Int32 → Option Unit) (hK : ∀ (s0 : ZS × ZS) (l4 : Int32), ZL E (zI E P PM ao cJ) 7 F (cells + 1) (slots + 6) 23 [(0, .ref b), (1, .ref (P.1 0)), (2, .ref (PM.1 0)), (3, .ref ao), (4, .int l4)] [] s0 (K s0 l4)) (s0 : ZS × ZS) (l4 : Int32) : ZL E (zI E P PM ao cJ) 7 F (cells + 1) (slots + 6) 439 [(0, .ref b), (1, .ref (P.1 0)), (2, .ref (PM.1 0)), (3, .ref ao), (4, .int l4)] [] s0 (f_L_law_439 xs Ls K s0 l4) := by
  unfold f_L_law_439
  refine zl_goto 561 X kd_L_law_439 rfl ?_
  exact j_L_law_561 X Z hfin hc hs K hK s0 l4
theorem j_L_law_433 {E : ZE} {P PM : ZP} {ao : Nat} {cJ : ClassId} {b Ls : Nat} {xs : Nat → Int32} {F : Unit → State → Prop} (X : ZX0 E "FrameMachineLaw" code 7 ret 10 251) (Z : ZQ E P PM ao cJ b Ls xs) (hfin : ∀ (pc : Nat) (H : Heap) (ls : Array Slot), decode code pc = .ok (.ireturn, 1) → W E.1 E.2.1 E.2.2.1 E.2.2.2.1 E.2.2.2.2.1 E.2.2.2.2.2.1 E.2.2.2.2.2.2.1 E.2.2.2.2.2.2.2.1 E.2.2.2.2.2.2.2.2.1 E.2.2.2.2.2.2.2.2.2 H [] 1050 10436 (F ()) (F0 E.2.2.2.2.2.1 pc ls [.int 1])) {cells slots : Nat} (hc : cells + 1 ≤ 1050) (hs : slots + 6 ≤ 10436) (K : ZS × ZS → Int32 → Option Unit) (hK : ∀ (s0 : ZS × ZS) (l4 : Int32), ZL E (zI E P PM ao cJ) 7 F (cells + 1) (slots + 6) 23 [(0, .ref b), (1, .ref (P.1 0)), (2, .ref (PM.1 0)), (3, .ref ao), (4, .int l4)] [] s0 (K s0 l4)) (s0 : ZS × ZS) (l4 : Int32) (t0 : Int64) (t1 : Int64) : ZL E (zI E P PM ao cJ) 7 F (cells + 1) (slots + 6) 433 [(0, .ref b), (1, .ref (P.1 0)), (2, .ref (PM.1 0)), (3, .ref ao), (4, .int l4)] [.long t0, .long t1] s0 (f_L_law_433 xs Ls K s0 l4 t0 t1) := by
  unfold f_L_law_433
  refine zl_lcmp 434 X kd_L_law_433 rfl ?_
  refine zl_if_eq 439 437 X kd_L_law_434 rfl rfl (fun _ => ?_) (fun _ => ?_)
  · exact j_L_law_439 X Z hfin hc hs K hK s0 l4
  · exact zl_none
theorem j_L_law_508 {E : ZE} {P PM : ZP} {ao : Nat} {cJ : ClassId} {b Ls : Nat} {xs : Nat → Int32} {F : Unit → State → Prop} (X : ZX0 E "FrameMachineLaw" code 7 ret 10 251) (Z : ZQ E P PM ao cJ b Ls xs) (hfin : ∀ (pc : Nat) (H : Heap) (ls : Array Slot), decode code pc = .ok (.ireturn, 1) → W E.1 E.2.1 E.2.2.1 E.2.2.2.1 E.2.2.2.2.1 E.2.2.2.2.2.1 E.2.2.2.2.2.2.1 E.2.2.2.2.2.2.2.1 E.2.2.2.2.2.2.2.2.1 E.2.2.2.2.2.2.2.2.2 H [] 1050 10436 (F ()) (F0 E.2.2.2.2.2.1 pc ls [.int 1])) {cells slots : Nat} (hc : cells + 1 ≤ 1050) (hs : slots + 6 ≤ 10436) (K : ZS × ZS → Int32 → Option Unit) (hK : ∀ (s0 : ZS × ZS) (l4 : Int32), ZL E (zI E P PM ao cJ) 7 F (cells + 1) (slots + 6) 23 [(0, .ref b), (1, .ref (P.1 0)), (2, .ref (PM.1 0)), (3, .ref ao), (4, .int l4)] [] s0 (K s0 l4)) (s0 : ZS × ZS) (l4 : Int32) : ZL E (zI E P PM ao cJ) 7 F (cells + 1) (slots + 6) 508 [(0, .ref b), (1, .ref (P.1 0)), (2, .ref (PM.1 0)), (3, .ref ao), (4, .int l4)] [] s0 (f_L_law_508 xs Ls K s0 l4) := by
  unfold f_L_law_508
  refine zl_goto 561 X kd_L_law_508 rfl ?_
  exact j_L_law_561 X Z hfin hc hs K hK s0 l4
theorem j_L_law_23 {E : ZE} {P PM : ZP} {ao : Nat} {cJ : ClassId} {b Ls : Nat} {xs : Nat → Int32} {F : Unit → State → Prop} (X : ZX0 E "FrameMachineLaw" code 7 ret 10 251) (Z : ZQ E P PM ao cJ b Ls xs) (hfin : ∀ (pc : Nat) (H : Heap) (ls : Array Slot), decode code pc = .ok (.ireturn, 1) → W E.1 E.2.1 E.2.2.1 E.2.2.2.1 E.2.2.2.2.1 E.2.2.2.2.2.1 E.2.2.2.2.2.2.1 E.2.2.2.2.2.2.2.1 E.2.2.2.2.2.2.2.2.1 E.2.2.2.2.2.2.2.2.2 H [] 1050 10436 (F ()) (F0 E.2.2.2.2.2.1 pc ls [.int 1])) : ∀ (n cells slots : Nat), cells + n ≤ 1050 → slots + 6 * n ≤ 10436 → ∀ (s0 : ZS × ZS) (l4 : Int32), ZL E (zI E P PM ao cJ) 7 F cells slots 23 [(0, .ref b), (1, .ref (P.1 0)), (2, .ref (PM.1 0)), (3, .ref ao), (4, .int l4)] [] s0 (f_L_law_23 xs Ls n s0 l4) := by
  intro n
  induction n with
  | zero => intro cells slots h1 h2 s0 l4; rw [f_L_law_23]; exact zl_none
  | succ n ih =>
    intro cells slots h1 h2 s0 l4
    have hc : cells + 1 ≤ 1050 := by omega
    have hs : slots + 6 ≤ 10436 := by omega
    have hK := ih (cells + 1) (slots + 6) (by omega) (by omega)
    rw [f_L_law_23]
    refine zl_iload 25 4 X kd_L_law_23 rfl rfl ?_
    refine zl_aload_n 26 0 X kd_L_law_25 rfl rfl rfl ?_
    refine zl_slen 27 X Z kd_L_law_26 rfl ?_
    refine zl_iconst 28 3 X kd_L_law_27 ki_3 rfl ?_
    refine zl_isub 29 X kd_L_law_28 rfl ?_
    refine zl_icmp_gt 567 32 X kd_L_law_29 rfl rfl (fun _ => ?_) (fun _ => ?_)
    · refine zl_iconst 568 1 X kd_L_law_567 ki_1 rfl ?_
      exact zl_fin hfin (Nat.le_of_succ_le hc) (Nat.le_trans (Nat.le_add_right _ 6) hs) kd_L_law_568
    · refine zl_aload_n 33 0 X kd_L_law_32 rfl rfl rfl ?_
      refine zl_iload 35 4 X kd_L_law_33 rfl rfl ?_
      refine zl_ng (fun hg => ?_)
      refine zl_sld 36 X Z kd_L_law_35 hg rfl ?_
      refine zl_bipush 38 15 X kd_L_law_36 kb_15 rfl ?_
      refine zl_iand 39 X kd_L_law_38 rfl ?_
      refine zl_nmi (fun v1 => ?_)
      refine zl_tcase 92 X kd_L_law_39 (by decide) (by decide) rfl rfl (fun _ => ?_) (fun h0 => ?_)
      · refine zl_aload_n 93 1 X kd_L_law_92 rfl rfl rfl ?_
        refine zl_aload_n 94 0 X kd_L_law_93 rfl rfl rfl ?_
        refine zl_iload 96 4 X kd_L_law_94 rfl rfl ?_
        refine zl_iconst 97 1 X kd_L_law_96 ki_1 rfl ?_
        refine zl_iadd 98 X kd_L_law_97 rfl ?_
        refine zl_nmi (fun v2 => ?_)
        refine zl_ng (fun hg => ?_)
        refine zl_sld 99 X Z kd_L_law_98 hg rfl ?_
        refine zl_aload_n 100 0 X kd_L_law_99 rfl rfl rfl ?_
        refine zl_iload 102 4 X kd_L_law_100 rfl rfl ?_
        refine zl_iconst 103 2 X kd_L_law_102 ki_2 rfl ?_
        refine zl_iadd 104 X kd_L_law_103 rfl ?_
        refine zl_nmi (fun v3 => ?_)
        refine zl_ng (fun hg => ?_)
        refine zl_sld 105 X Z kd_L_law_104 hg rfl ?_
        refine zl_aload_n 106 3 X kd_L_law_105 rfl rfl rfl ?_
        refine zl_W 109 (As := [.ref (P.1 0), .int (xs v2.toNatClampNeg), .int (xs v3.toNatClampNeg), .ref ao]) (rest := []) (fr' := 7) (lo' := 112) X Z kw_353 kw_354 kw_0 kw_355 hyL_poke (Nat.le_of_ble_eq_true rfl) (Nat.le_of_ble_eq_true rfl) (fun sz h p hp => cw_L_poke Z.2.2.2.2.2.2.2.2.2.2.2.2.1 Z.1 Z.2.2.2.2.2.2.2.2.1 s0.1 sz h (xs v2.toNatClampNeg) (xs v3.toNatClampNeg) hp) rfl (Nat.le_of_ble_eq_true rfl) hc hs kd_L_law_106 rfl (fun p4 => ?_)
        refine zl_istore 111 [(5, .int p4.1), (0, .ref b), (1, .ref (P.1 0)), (2, .ref (PM.1 0)), (3, .ref ao), (4, .int l4)] X kd_L_law_109 (Nat.le_of_ble_eq_true rfl) rfl rfl ?_
        refine zl_aload_n 112 3 X kd_L_law_111 rfl rfl rfl ?_
        refine zl_aload_n 113 1 X kd_L_law_112 rfl rfl rfl ?_
        refine zl_iload 115 5 X kd_L_law_113 rfl rfl ?_
        refine zl_iconst 116 1 X kd_L_law_115 ki_1 rfl ?_
        refine zl_iadd 117 X kd_L_law_116 rfl ?_
        refine zl_nmi (fun v5 => ?_)
        refine zl_ng (fun hg => ?_)
        refine zl_sld 118 X Z kd_L_law_117 hg rfl ?_
        refine zl_aload_n 119 1 X kd_L_law_118 rfl rfl rfl ?_
        refine zl_iload 121 5 X kd_L_law_119 rfl rfl ?_
        refine zl_iconst 122 2 X kd_L_law_121 ki_2 rfl ?_
        refine zl_iadd 123 X kd_L_law_122 rfl ?_
        refine zl_nmi (fun v6 => ?_)
        refine zl_ng (fun hg => ?_)
        refine zl_sld 124 X Z kd_L_law_123 hg rfl ?_
        refine zl_cM 127 (As := [.int (xs v5.toNatClampNeg), .int (xs v6.toNatClampNeg)]) (rest := []) X Z kc_L_41 (Nat.le_of_ble_eq_true rfl) (Nat.le_of_ble_eq_true rfl) (fun p hp => c_M_poke Z.2.1 ((p4.2, s0.2)).2 (xs v5.toNatClampNeg) (xs v6.toNatClampNeg) hp) rfl rfl (Nat.le_of_ble_eq_true rfl) hc hs kd_L_law_124 rfl (fun p7 => ?_)
        refine zl_istore 129 [(6, .int p7.1), (5, .int p4.1), (0, .ref b), (1, .ref (P.1 0)), (2, .ref (PM.1 0)), (3, .ref ao), (4, .int l4)] X kd_L_law_127 (Nat.le_of_ble_eq_true rfl) rfl rfl ?_
        refine zl_aload_n 130 4 X kd_L_law_129 rfl rfl rfl ?_
        refine zl_cM 133 (As := []) (rest := []) X Z kc_L_42 (Nat.le_of_ble_eq_true rfl) (Nat.le_of_ble_eq_true rfl) (fun p hp => c_M_thrown Z.2.1 ((((p4.2, s0.2)).1, p7.2)).2  hp) rfl rfl (Nat.le_of_ble_eq_true rfl) hc hs kd_L_law_130 rfl (fun p8 => ?_)
        refine zl_iload 135 1 X kd_L_law_133 rfl rfl ?_
        refine zl_icmp_eq 140 138 X kd_L_law_135 rfl rfl (fun _ => ?_) (fun _ => ?_)
        · refine zl_iload 142 1 X kd_L_law_140 rfl rfl ?_
          refine zl_if_ne 164 145 X kd_L_law_142 rfl rfl (fun _ => ?_) (fun _ => ?_)
          · refine zl_aload_n 146 5 X kd_L_law_145 rfl rfl rfl ?_
            refine zl_iconst 147 0 X kd_L_law_146 ki_0 rfl ?_
            refine zl_lald 148 X Z kd_L_law_147 rfl ?_
            refine zl_iload 150 0 X kd_L_law_148 rfl rfl ?_
            refine zl_if_eq 157 153 X kd_L_law_150 rfl rfl (fun _ => ?_) (fun _ => ?_)
            · refine zl_lconst 158 0 X kd_L_law_157 rfl rfl ?_
              refine zl_loc [2, 3, 4, 5, 6] (L2 := [(0, .ref b), (1, .ref (P.1 0)), (2, .ref (PM.1 0)), (3, .ref ao), (4, .int l4)]) rfl ?_
              exact j_L_law_158 X Z hfin hc hs (f_L_law_23 xs Ls n) hK ((((((p4.2, s0.2)).1, p7.2)).1, p8.2)) l4 0 (((((((((p4.2, s0.2)).1, p7.2)).1, p8.2)).1 5 0).toInt64))
            · refine zl_lconst 154 1 X kd_L_law_153 rfl rfl ?_
              refine zl_goto 158 X kd_L_law_154 rfl ?_
              refine zl_loc [2, 3, 4, 5, 6] (L2 := [(0, .ref b), (1, .ref (P.1 0)), (2, .ref (PM.1 0)), (3, .ref ao), (4, .int l4)]) rfl ?_
              exact j_L_law_158 X Z hfin hc hs (f_L_law_23 xs Ls n) hK ((((((p4.2, s0.2)).1, p7.2)).1, p8.2)) l4 1 (((((((((p4.2, s0.2)).1, p7.2)).1, p8.2)).1 5 0).toInt64))
          · refine zl_loc [2, 3, 4, 5, 6] (L2 := [(0, .ref b), (1, .ref (P.1 0)), (2, .ref (PM.1 0)), (3, .ref ao), (4, .int l4)]) rfl ?_
            exact j_L_law_164 X Z hfin hc hs (f_L_law_23 xs Ls n) hK ((((((p4.2, s0.2)).1, p7.2)).1, p8.2)) l4
        · exact zl_none
      refine zl_tcase 167 X kd_L_law_39 (by decide) (by decide) rfl rfl (fun _ => ?_) (fun h1 => ?_)
      · refine zl_aload_n 168 1 X kd_L_law_167 rfl rfl rfl ?_
        refine zl_aload_n 169 0 X kd_L_law_168 rfl rfl rfl ?_
        refine zl_iload 171 4 X kd_L_law_169 rfl rfl ?_
        refine zl_iconst 172 1 X kd_L_law_171 ki_1 rfl ?_
        refine zl_iadd 173 X kd_L_law_172 rfl ?_
        refine zl_nmi (fun v10 => ?_)
        refine zl_ng (fun hg => ?_)
        refine zl_sld 174 X Z kd_L_law_173 hg rfl ?_
        refine zl_aload_n 175 3 X kd_L_law_174 rfl rfl rfl ?_
        refine zl_W 178 (As := [.ref (P.1 0), .int (xs v10.toNatClampNeg), .ref ao]) (rest := []) (fr' := 7) (lo' := 111) X Z kw_438 kw_439 kw_0 kw_440 hyL_peek (Nat.le_of_ble_eq_true rfl) (Nat.le_of_ble_eq_true rfl) (fun sz h p hp => cw_L_peek Z.2.2.2.2.2.2.2.2.2.2.2.2.1 Z.1 Z.2.2.2.2.2.2.2.2.1 s0.1 sz h (xs v10.toNatClampNeg) hp) rfl (Nat.le_of_ble_eq_true rfl) hc hs kd_L_law_175 rfl (fun p11 => ?_)
        refine zl_istore 180 [(5, .int p11.1), (0, .ref b), (1, .ref (P.1 0)), (2, .ref (PM.1 0)), (3, .ref ao), (4, .int l4)] X kd_L_law_178 (Nat.le_of_ble_eq_true rfl) rfl rfl ?_
        refine zl_aload_n 181 3 X kd_L_law_180 rfl rfl rfl ?_
        refine zl_aload_n 182 1 X kd_L_law_181 rfl rfl rfl ?_
        refine zl_iload 184 5 X kd_L_law_182 rfl rfl ?_
        refine zl_iconst 185 1 X kd_L_law_184 ki_1 rfl ?_
        refine zl_iadd 186 X kd_L_law_185 rfl ?_
        refine zl_nmi (fun v12 => ?_)
        refine zl_ng (fun hg => ?_)
        refine zl_sld 187 X Z kd_L_law_186 hg rfl ?_
        refine zl_cM 190 (As := [.int (xs v12.toNatClampNeg)]) (rest := []) X Z kc_L_49 (Nat.le_of_ble_eq_true rfl) (Nat.le_of_ble_eq_true rfl) (fun p hp => c_M_peek Z.2.1 ((p11.2, s0.2)).2 (xs v12.toNatClampNeg) hp) rfl rfl (Nat.le_of_ble_eq_true rfl) hc hs kd_L_law_187 rfl (fun p13 => ?_)
        refine zl_istore 192 [(6, .int p13.1), (5, .int p11.1), (0, .ref b), (1, .ref (P.1 0)), (2, .ref (PM.1 0)), (3, .ref ao), (4, .int l4)] X kd_L_law_190 (Nat.le_of_ble_eq_true rfl) rfl rfl ?_
        refine zl_aload_n 193 4 X kd_L_law_192 rfl rfl rfl ?_
        refine zl_cM 196 (As := []) (rest := []) X Z kc_L_42 (Nat.le_of_ble_eq_true rfl) (Nat.le_of_ble_eq_true rfl) (fun p hp => c_M_thrown Z.2.1 ((((p11.2, s0.2)).1, p13.2)).2  hp) rfl rfl (Nat.le_of_ble_eq_true rfl) hc hs kd_L_law_193 rfl (fun p14 => ?_)
        refine zl_iload 198 1 X kd_L_law_196 rfl rfl ?_
        refine zl_icmp_eq 203 201 X kd_L_law_198 rfl rfl (fun _ => ?_) (fun _ => ?_)
        · refine zl_iload 205 1 X kd_L_law_203 rfl rfl ?_
          refine zl_if_ne 220 208 X kd_L_law_205 rfl rfl (fun _ => ?_) (fun _ => ?_)
          · refine zl_aload_n 209 5 X kd_L_law_208 rfl rfl rfl ?_
            refine zl_iconst 210 0 X kd_L_law_209 ki_0 rfl ?_
            refine zl_lald 211 X Z kd_L_law_210 rfl ?_
            refine zl_iload 213 0 X kd_L_law_211 rfl rfl ?_
            refine zl_i2l 214 X kd_L_law_213 rfl ?_
            refine zl_lcmp 215 X kd_L_law_214 rfl ?_
            refine zl_if_eq 220 218 X kd_L_law_215 rfl rfl (fun _ => ?_) (fun _ => ?_)
            · refine zl_loc [2, 3, 4, 5, 6] (L2 := [(0, .ref b), (1, .ref (P.1 0)), (2, .ref (PM.1 0)), (3, .ref ao), (4, .int l4)]) rfl ?_
              exact j_L_law_220 X Z hfin hc hs (f_L_law_23 xs Ls n) hK ((((((p11.2, s0.2)).1, p13.2)).1, p14.2)) l4
            · exact zl_none
          · refine zl_loc [2, 3, 4, 5, 6] (L2 := [(0, .ref b), (1, .ref (P.1 0)), (2, .ref (PM.1 0)), (3, .ref ao), (4, .int l4)]) rfl ?_
            exact j_L_law_220 X Z hfin hc hs (f_L_law_23 xs Ls n) hK ((((((p11.2, s0.2)).1, p13.2)).1, p14.2)) l4
        · exact zl_none
      refine zl_tcase 223 X kd_L_law_39 (by decide) (by decide) rfl rfl (fun _ => ?_) (fun h2 => ?_)
      · refine zl_aload_n 224 1 X kd_L_law_223 rfl rfl rfl ?_
        refine zl_aload_n 225 0 X kd_L_law_224 rfl rfl rfl ?_
        refine zl_iload 227 4 X kd_L_law_225 rfl rfl ?_
        refine zl_iconst 228 1 X kd_L_law_227 ki_1 rfl ?_
        refine zl_iadd 229 X kd_L_law_228 rfl ?_
        refine zl_nmi (fun v15 => ?_)
        refine zl_ng (fun hg => ?_)
        refine zl_sld 230 X Z kd_L_law_229 hg rfl ?_
        refine zl_aload_n 231 0 X kd_L_law_230 rfl rfl rfl ?_
        refine zl_iload 233 4 X kd_L_law_231 rfl rfl ?_
        refine zl_iconst 234 2 X kd_L_law_233 ki_2 rfl ?_
        refine zl_iadd 235 X kd_L_law_234 rfl ?_
        refine zl_nmi (fun v16 => ?_)
        refine zl_ng (fun hg => ?_)
        refine zl_sld 236 X Z kd_L_law_235 hg rfl ?_
        refine zl_aload_n 237 3 X kd_L_law_236 rfl rfl rfl ?_
        refine zl_W 240 (As := [.ref (P.1 0), .int (xs v15.toNatClampNeg), .int (xs v16.toNatClampNeg), .ref ao]) (rest := []) (fr' := 7) (lo' := 112) X Z kw_446 kw_447 kw_0 kw_448 hyL_set (Nat.le_of_ble_eq_true rfl) (Nat.le_of_ble_eq_true rfl) (fun sz h p hp => cw_L_set Z.2.2.2.2.2.2.2.2.2.2.2.2.1 Z.1 Z.2.2.2.2.2.2.2.2.1 s0.1 sz h (xs v15.toNatClampNeg) (xs v16.toNatClampNeg) hp) rfl (Nat.le_of_ble_eq_true rfl) hc hs kd_L_law_237 rfl (fun p17 => ?_)
        refine zl_istore 242 [(5, .int p17.1), (0, .ref b), (1, .ref (P.1 0)), (2, .ref (PM.1 0)), (3, .ref ao), (4, .int l4)] X kd_L_law_240 (Nat.le_of_ble_eq_true rfl) rfl rfl ?_
        refine zl_aload_n 243 3 X kd_L_law_242 rfl rfl rfl ?_
        refine zl_aload_n 244 1 X kd_L_law_243 rfl rfl rfl ?_
        refine zl_iload 246 5 X kd_L_law_244 rfl rfl ?_
        refine zl_iconst 247 1 X kd_L_law_246 ki_1 rfl ?_
        refine zl_iadd 248 X kd_L_law_247 rfl ?_
        refine zl_nmi (fun v18 => ?_)
        refine zl_ng (fun hg => ?_)
        refine zl_sld 249 X Z kd_L_law_248 hg rfl ?_
        refine zl_aload_n 250 1 X kd_L_law_249 rfl rfl rfl ?_
        refine zl_iload 252 5 X kd_L_law_250 rfl rfl ?_
        refine zl_iconst 253 2 X kd_L_law_252 ki_2 rfl ?_
        refine zl_iadd 254 X kd_L_law_253 rfl ?_
        refine zl_nmi (fun v19 => ?_)
        refine zl_ng (fun hg => ?_)
        refine zl_sld 255 X Z kd_L_law_254 hg rfl ?_
        refine zl_cM 258 (As := [.int (xs v18.toNatClampNeg), .int (xs v19.toNatClampNeg)]) (rest := []) X Z kc_L_52 (Nat.le_of_ble_eq_true rfl) (Nat.le_of_ble_eq_true rfl) (fun p hp => c_M_set Z.2.1 ((p17.2, s0.2)).2 (xs v18.toNatClampNeg) (xs v19.toNatClampNeg) hp) rfl rfl (Nat.le_of_ble_eq_true rfl) hc hs kd_L_law_255 rfl (fun p20 => ?_)
        refine zl_istore 260 [(6, .int p20.1), (5, .int p17.1), (0, .ref b), (1, .ref (P.1 0)), (2, .ref (PM.1 0)), (3, .ref ao), (4, .int l4)] X kd_L_law_258 (Nat.le_of_ble_eq_true rfl) rfl rfl ?_
        refine zl_aload_n 261 4 X kd_L_law_260 rfl rfl rfl ?_
        refine zl_cM 264 (As := []) (rest := []) X Z kc_L_42 (Nat.le_of_ble_eq_true rfl) (Nat.le_of_ble_eq_true rfl) (fun p hp => c_M_thrown Z.2.1 ((((p17.2, s0.2)).1, p20.2)).2  hp) rfl rfl (Nat.le_of_ble_eq_true rfl) hc hs kd_L_law_261 rfl (fun p21 => ?_)
        refine zl_iload 266 1 X kd_L_law_264 rfl rfl ?_
        refine zl_icmp_eq 271 269 X kd_L_law_266 rfl rfl (fun _ => ?_) (fun _ => ?_)
        · refine zl_iload 273 1 X kd_L_law_271 rfl rfl ?_
          refine zl_if_ne 295 276 X kd_L_law_273 rfl rfl (fun _ => ?_) (fun _ => ?_)
          · refine zl_aload_n 277 5 X kd_L_law_276 rfl rfl rfl ?_
            refine zl_iconst 278 0 X kd_L_law_277 ki_0 rfl ?_
            refine zl_lald 279 X Z kd_L_law_278 rfl ?_
            refine zl_iload 281 0 X kd_L_law_279 rfl rfl ?_
            refine zl_if_eq 288 284 X kd_L_law_281 rfl rfl (fun _ => ?_) (fun _ => ?_)
            · refine zl_lconst 289 0 X kd_L_law_288 rfl rfl ?_
              refine zl_loc [2, 3, 4, 5, 6] (L2 := [(0, .ref b), (1, .ref (P.1 0)), (2, .ref (PM.1 0)), (3, .ref ao), (4, .int l4)]) rfl ?_
              exact j_L_law_289 X Z hfin hc hs (f_L_law_23 xs Ls n) hK ((((((p17.2, s0.2)).1, p20.2)).1, p21.2)) l4 0 (((((((((p17.2, s0.2)).1, p20.2)).1, p21.2)).1 5 0).toInt64))
            · refine zl_lconst 285 1 X kd_L_law_284 rfl rfl ?_
              refine zl_goto 289 X kd_L_law_285 rfl ?_
              refine zl_loc [2, 3, 4, 5, 6] (L2 := [(0, .ref b), (1, .ref (P.1 0)), (2, .ref (PM.1 0)), (3, .ref ao), (4, .int l4)]) rfl ?_
              exact j_L_law_289 X Z hfin hc hs (f_L_law_23 xs Ls n) hK ((((((p17.2, s0.2)).1, p20.2)).1, p21.2)) l4 1 (((((((((p17.2, s0.2)).1, p20.2)).1, p21.2)).1 5 0).toInt64))
          · refine zl_loc [2, 3, 4, 5, 6] (L2 := [(0, .ref b), (1, .ref (P.1 0)), (2, .ref (PM.1 0)), (3, .ref ao), (4, .int l4)]) rfl ?_
            exact j_L_law_295 X Z hfin hc hs (f_L_law_23 xs Ls n) hK ((((((p17.2, s0.2)).1, p20.2)).1, p21.2)) l4
        · exact zl_none
      refine zl_tcase 298 X kd_L_law_39 (by decide) (by decide) rfl rfl (fun _ => ?_) (fun h3 => ?_)
      · refine zl_aload_n 299 1 X kd_L_law_298 rfl rfl rfl ?_
        refine zl_aload_n 300 0 X kd_L_law_299 rfl rfl rfl ?_
        refine zl_iload 302 4 X kd_L_law_300 rfl rfl ?_
        refine zl_iconst 303 1 X kd_L_law_302 ki_1 rfl ?_
        refine zl_iadd 304 X kd_L_law_303 rfl ?_
        refine zl_nmi (fun v22 => ?_)
        refine zl_ng (fun hg => ?_)
        refine zl_sld 305 X Z kd_L_law_304 hg rfl ?_
        refine zl_cC 308 (As := [.int (xs v22.toNatClampNeg)]) (rest := []) X Z kc_L_53 (Nat.le_of_ble_eq_true rfl) (Nat.le_of_ble_eq_true rfl) (fun p hp => c_F_status Z.1 s0.1 (xs v22.toNatClampNeg) hp) rfl rfl (Nat.le_of_ble_eq_true rfl) (Nat.le_of_succ_le hc) (Nat.le_trans (Nat.le_add_right _ 6) hs) kd_L_law_305 rfl (fun p23 => ?_)
        refine zl_aload_n 309 2 X kd_L_law_308 rfl rfl rfl ?_
        refine zl_aload_n 310 0 X kd_L_law_309 rfl rfl rfl ?_
        refine zl_iload 312 4 X kd_L_law_310 rfl rfl ?_
        refine zl_iconst 313 1 X kd_L_law_312 ki_1 rfl ?_
        refine zl_iadd 314 X kd_L_law_313 rfl ?_
        refine zl_nmi (fun v24 => ?_)
        refine zl_ng (fun hg => ?_)
        refine zl_sld 315 X Z kd_L_law_314 hg rfl ?_
        refine zl_cM 318 (As := [.int (xs v24.toNatClampNeg)]) (rest := [.int p23.1]) X Z kc_L_56 (Nat.le_of_ble_eq_true rfl) (Nat.le_of_ble_eq_true rfl) (fun p hp => c_M_status Z.2.1 ((zs_mix p23.2 s0.1, s0.2)).2 (xs v24.toNatClampNeg) hp) rfl rfl (Nat.le_of_ble_eq_true rfl) (Nat.le_of_succ_le hc) (Nat.le_trans (Nat.le_add_right _ 6) hs) kd_L_law_315 rfl (fun p25 => ?_)
        refine zl_icmp_eq 561 321 X kd_L_law_318 rfl rfl (fun _ => ?_) (fun _ => ?_)
        · refine zl_wide (cells + 1) (slots + 6) (Nat.le_succ _) (by omega) ?_
          exact j_L_law_561 X Z hfin hc hs (f_L_law_23 xs Ls n) hK ((((zs_mix p23.2 s0.1, s0.2)).1, p25.2)) l4
        · exact zl_none
      refine zl_tcase 323 X kd_L_law_39 (by decide) (by decide) rfl rfl (fun _ => ?_) (fun h4 => ?_)
      · refine zl_aload_n 324 1 X kd_L_law_323 rfl rfl rfl ?_
        refine zl_aload_n 325 0 X kd_L_law_324 rfl rfl rfl ?_
        refine zl_iload 327 4 X kd_L_law_325 rfl rfl ?_
        refine zl_iconst 328 1 X kd_L_law_327 ki_1 rfl ?_
        refine zl_iadd 329 X kd_L_law_328 rfl ?_
        refine zl_nmi (fun v26 => ?_)
        refine zl_ng (fun hg => ?_)
        refine zl_sld 330 X Z kd_L_law_329 hg rfl ?_
        refine zl_aload_n 331 3 X kd_L_law_330 rfl rfl rfl ?_
        refine zl_W 334 (As := [.ref (P.1 0), .int (xs v26.toNatClampNeg), .ref ao]) (rest := []) (fr' := 8) (lo' := 191) X Z kw_458 kw_459 kw_0 kw_460 hyL_run (Nat.le_of_ble_eq_true rfl) (Nat.le_of_ble_eq_true rfl) (fun sz h p hp => cw_L_run Z.2.2.2.2.2.2.2.2.2.2.2.2.1 Z.1 Z.2.2.2.2.2.2.2.2.1 s0.1 sz h (xs v26.toNatClampNeg) hp) rfl (Nat.le_of_ble_eq_true rfl) hc hs kd_L_law_331 rfl (fun p27 => ?_)
        refine zl_istore 336 [(5, .int p27.1), (0, .ref b), (1, .ref (P.1 0)), (2, .ref (PM.1 0)), (3, .ref ao), (4, .int l4)] X kd_L_law_334 (Nat.le_of_ble_eq_true rfl) rfl rfl ?_
        refine zl_aload_n 337 3 X kd_L_law_336 rfl rfl rfl ?_
        refine zl_aload_n 338 1 X kd_L_law_337 rfl rfl rfl ?_
        refine zl_iload 340 5 X kd_L_law_338 rfl rfl ?_
        refine zl_iconst 341 1 X kd_L_law_340 ki_1 rfl ?_
        refine zl_iadd 342 X kd_L_law_341 rfl ?_
        refine zl_nmi (fun v28 => ?_)
        refine zl_ng (fun hg => ?_)
        refine zl_sld 343 X Z kd_L_law_342 hg rfl ?_
        refine zl_cM 346 (As := [.int (xs v28.toNatClampNeg)]) (rest := []) X Z kc_L_59 (Nat.le_of_ble_eq_true rfl) (Nat.le_of_ble_eq_true rfl) (fun p hp => c_M_run Z.2.1 ((p27.2, s0.2)).2 (xs v28.toNatClampNeg) hp) rfl rfl (Nat.le_of_ble_eq_true rfl) hc hs kd_L_law_343 rfl (fun p29 => ?_)
        refine zl_istore 348 [(6, .int p29.1), (5, .int p27.1), (0, .ref b), (1, .ref (P.1 0)), (2, .ref (PM.1 0)), (3, .ref ao), (4, .int l4)] X kd_L_law_346 (Nat.le_of_ble_eq_true rfl) rfl rfl ?_
        refine zl_aload_n 349 4 X kd_L_law_348 rfl rfl rfl ?_
        refine zl_cM 352 (As := []) (rest := []) X Z kc_L_42 (Nat.le_of_ble_eq_true rfl) (Nat.le_of_ble_eq_true rfl) (fun p hp => c_M_thrown Z.2.1 ((((p27.2, s0.2)).1, p29.2)).2  hp) rfl rfl (Nat.le_of_ble_eq_true rfl) hc hs kd_L_law_349 rfl (fun p30 => ?_)
        refine zl_iload 354 1 X kd_L_law_352 rfl rfl ?_
        refine zl_icmp_eq 359 357 X kd_L_law_354 rfl rfl (fun _ => ?_) (fun _ => ?_)
        · refine zl_iload 361 1 X kd_L_law_359 rfl rfl ?_
          refine zl_if_ne 376 364 X kd_L_law_361 rfl rfl (fun _ => ?_) (fun _ => ?_)
          · refine zl_aload_n 365 5 X kd_L_law_364 rfl rfl rfl ?_
            refine zl_iconst 366 0 X kd_L_law_365 ki_0 rfl ?_
            refine zl_lald 367 X Z kd_L_law_366 rfl ?_
            refine zl_iload 369 0 X kd_L_law_367 rfl rfl ?_
            refine zl_i2l 370 X kd_L_law_369 rfl ?_
            refine zl_lcmp 371 X kd_L_law_370 rfl ?_
            refine zl_if_eq 376 374 X kd_L_law_371 rfl rfl (fun _ => ?_) (fun _ => ?_)
            · refine zl_loc [2, 3, 4, 5, 6] (L2 := [(0, .ref b), (1, .ref (P.1 0)), (2, .ref (PM.1 0)), (3, .ref ao), (4, .int l4)]) rfl ?_
              exact j_L_law_376 X Z hfin hc hs (f_L_law_23 xs Ls n) hK ((((((p27.2, s0.2)).1, p29.2)).1, p30.2)) l4
            · exact zl_none
          · refine zl_loc [2, 3, 4, 5, 6] (L2 := [(0, .ref b), (1, .ref (P.1 0)), (2, .ref (PM.1 0)), (3, .ref ao), (4, .int l4)]) rfl ?_
            exact j_L_law_376 X Z hfin hc hs (f_L_law_23 xs Ls n) hK ((((((p27.2, s0.2)).1, p29.2)).1, p30.2)) l4
        · exact zl_none
      refine zl_tcase 379 X kd_L_law_39 (by decide) (by decide) rfl rfl (fun _ => ?_) (fun h5 => ?_)
      · refine zl_aload_n 380 1 X kd_L_law_379 rfl rfl rfl ?_
        refine zl_aload_n 381 0 X kd_L_law_380 rfl rfl rfl ?_
        refine zl_iload 383 4 X kd_L_law_381 rfl rfl ?_
        refine zl_iconst 384 1 X kd_L_law_383 ki_1 rfl ?_
        refine zl_iadd 385 X kd_L_law_384 rfl ?_
        refine zl_nmi (fun v31 => ?_)
        refine zl_ng (fun hg => ?_)
        refine zl_sld 386 X Z kd_L_law_385 hg rfl ?_
        refine zl_aload_n 387 3 X kd_L_law_386 rfl rfl rfl ?_
        refine zl_W 390 (As := [.ref (P.1 0), .int (xs v31.toNatClampNeg), .ref ao]) (rest := []) (fr' := 7) (lo' := 111) X Z kw_747 kw_748 kw_0 kw_749 hyL_comes (Nat.le_of_ble_eq_true rfl) (Nat.le_of_ble_eq_true rfl) (fun sz h p hp => cw_L_comes Z.2.2.2.2.2.2.2.2.2.2.2.2.1 Z.1 Z.2.2.2.2.2.2.2.2.1 s0.1 sz h (xs v31.toNatClampNeg) hp) rfl (Nat.le_of_ble_eq_true rfl) hc hs kd_L_law_387 rfl (fun p32 => ?_)
        refine zl_istore 392 [(5, .int p32.1), (0, .ref b), (1, .ref (P.1 0)), (2, .ref (PM.1 0)), (3, .ref ao), (4, .int l4)] X kd_L_law_390 (Nat.le_of_ble_eq_true rfl) rfl rfl ?_
        refine zl_aload_n 393 3 X kd_L_law_392 rfl rfl rfl ?_
        refine zl_aload_n 394 1 X kd_L_law_393 rfl rfl rfl ?_
        refine zl_iload 396 5 X kd_L_law_394 rfl rfl ?_
        refine zl_iconst 397 1 X kd_L_law_396 ki_1 rfl ?_
        refine zl_iadd 398 X kd_L_law_397 rfl ?_
        refine zl_nmi (fun v33 => ?_)
        refine zl_ng (fun hg => ?_)
        refine zl_sld 399 X Z kd_L_law_398 hg rfl ?_
        refine zl_cM 402 (As := [.int (xs v33.toNatClampNeg)]) (rest := []) X Z kc_L_62 (Nat.le_of_ble_eq_true rfl) (Nat.le_of_ble_eq_true rfl) (fun p hp => c_M_comes Z.2.1 ((p32.2, s0.2)).2 (xs v33.toNatClampNeg) hp) rfl rfl (Nat.le_of_ble_eq_true rfl) hc hs kd_L_law_399 rfl (fun p34 => ?_)
        refine zl_istore 404 [(6, .int p34.1), (5, .int p32.1), (0, .ref b), (1, .ref (P.1 0)), (2, .ref (PM.1 0)), (3, .ref ao), (4, .int l4)] X kd_L_law_402 (Nat.le_of_ble_eq_true rfl) rfl rfl ?_
        refine zl_aload_n 405 4 X kd_L_law_404 rfl rfl rfl ?_
        refine zl_cM 408 (As := []) (rest := []) X Z kc_L_42 (Nat.le_of_ble_eq_true rfl) (Nat.le_of_ble_eq_true rfl) (fun p hp => c_M_thrown Z.2.1 ((((p32.2, s0.2)).1, p34.2)).2  hp) rfl rfl (Nat.le_of_ble_eq_true rfl) hc hs kd_L_law_405 rfl (fun p35 => ?_)
        refine zl_iload 410 1 X kd_L_law_408 rfl rfl ?_
        refine zl_icmp_eq 415 413 X kd_L_law_410 rfl rfl (fun _ => ?_) (fun _ => ?_)
        · refine zl_iload 417 1 X kd_L_law_415 rfl rfl ?_
          refine zl_if_ne 439 420 X kd_L_law_417 rfl rfl (fun _ => ?_) (fun _ => ?_)
          · refine zl_aload_n 421 5 X kd_L_law_420 rfl rfl rfl ?_
            refine zl_iconst 422 0 X kd_L_law_421 ki_0 rfl ?_
            refine zl_lald 423 X Z kd_L_law_422 rfl ?_
            refine zl_iload 425 0 X kd_L_law_423 rfl rfl ?_
            refine zl_if_eq 432 428 X kd_L_law_425 rfl rfl (fun _ => ?_) (fun _ => ?_)
            · refine zl_lconst 433 0 X kd_L_law_432 rfl rfl ?_
              refine zl_loc [2, 3, 4, 5, 6] (L2 := [(0, .ref b), (1, .ref (P.1 0)), (2, .ref (PM.1 0)), (3, .ref ao), (4, .int l4)]) rfl ?_
              exact j_L_law_433 X Z hfin hc hs (f_L_law_23 xs Ls n) hK ((((((p32.2, s0.2)).1, p34.2)).1, p35.2)) l4 0 (((((((((p32.2, s0.2)).1, p34.2)).1, p35.2)).1 5 0).toInt64))
            · refine zl_lconst 429 1 X kd_L_law_428 rfl rfl ?_
              refine zl_goto 433 X kd_L_law_429 rfl ?_
              refine zl_loc [2, 3, 4, 5, 6] (L2 := [(0, .ref b), (1, .ref (P.1 0)), (2, .ref (PM.1 0)), (3, .ref ao), (4, .int l4)]) rfl ?_
              exact j_L_law_433 X Z hfin hc hs (f_L_law_23 xs Ls n) hK ((((((p32.2, s0.2)).1, p34.2)).1, p35.2)) l4 1 (((((((((p32.2, s0.2)).1, p34.2)).1, p35.2)).1 5 0).toInt64))
          · refine zl_loc [2, 3, 4, 5, 6] (L2 := [(0, .ref b), (1, .ref (P.1 0)), (2, .ref (PM.1 0)), (3, .ref ao), (4, .int l4)]) rfl ?_
            exact j_L_law_439 X Z hfin hc hs (f_L_law_23 xs Ls n) hK ((((((p32.2, s0.2)).1, p34.2)).1, p35.2)) l4
        · exact zl_none
      refine zl_tcase 442 X kd_L_law_39 (by decide) (by decide) rfl rfl (fun _ => ?_) (fun h6 => ?_)
      · refine zl_aload_n 443 1 X kd_L_law_442 rfl rfl rfl ?_
        refine zl_cC 446 (As := []) (rest := []) X Z kc_L_63 (Nat.le_of_ble_eq_true rfl) (Nat.le_of_ble_eq_true rfl) (fun p hp => c_F_reset Z.1 s0.1  hp) rfl rfl (Nat.le_of_ble_eq_true rfl) (Nat.le_of_succ_le hc) (Nat.le_trans (Nat.le_add_right _ 6) hs) kd_L_law_443 rfl (fun p36 => ?_)
        refine zl_aload_n 447 2 X kd_L_law_446 rfl rfl rfl ?_
        refine zl_cM 450 (As := []) (rest := [.int p36.1]) X Z kc_L_66 (Nat.le_of_ble_eq_true rfl) (Nat.le_of_ble_eq_true rfl) (fun p hp => c_M_reset Z.2.1 ((zs_mix p36.2 s0.1, s0.2)).2  hp) rfl rfl (Nat.le_of_ble_eq_true rfl) (Nat.le_of_succ_le hc) (Nat.le_trans (Nat.le_add_right _ 6) hs) kd_L_law_447 rfl (fun p37 => ?_)
        refine zl_icmp_eq 561 453 X kd_L_law_450 rfl rfl (fun _ => ?_) (fun _ => ?_)
        · refine zl_wide (cells + 1) (slots + 6) (Nat.le_succ _) (by omega) ?_
          exact j_L_law_561 X Z hfin hc hs (f_L_law_23 xs Ls n) hK ((((zs_mix p36.2 s0.1, s0.2)).1, p37.2)) l4
        · exact zl_none
      refine zl_tcase 455 X kd_L_law_39 (by decide) (by decide) rfl rfl (fun _ => ?_) (fun h7 => ?_)
      · refine zl_aload_n 456 1 X kd_L_law_455 rfl rfl rfl ?_
        refine zl_aload_n 457 0 X kd_L_law_456 rfl rfl rfl ?_
        refine zl_iload 459 4 X kd_L_law_457 rfl rfl ?_
        refine zl_iconst 460 1 X kd_L_law_459 ki_1 rfl ?_
        refine zl_iadd 461 X kd_L_law_460 rfl ?_
        refine zl_nmi (fun v38 => ?_)
        refine zl_ng (fun hg => ?_)
        refine zl_sld 462 X Z kd_L_law_461 hg rfl ?_
        refine zl_aload_n 463 3 X kd_L_law_462 rfl rfl rfl ?_
        refine zl_W 466 (As := [.ref (P.1 0), .int (xs v38.toNatClampNeg), .ref ao]) (rest := []) (fr' := 7) (lo' := 111) X Z kw_759 kw_760 kw_0 kw_761 hyL_get (Nat.le_of_ble_eq_true rfl) (Nat.le_of_ble_eq_true rfl) (fun sz h p hp => cw_L_get Z.2.2.2.2.2.2.2.2.2.2.2.2.1 Z.1 Z.2.2.2.2.2.2.2.2.1 s0.1 sz h (xs v38.toNatClampNeg) hp) rfl (Nat.le_of_ble_eq_true rfl) hc hs kd_L_law_463 rfl (fun p39 => ?_)
        refine zl_istore 468 [(5, .int p39.1), (0, .ref b), (1, .ref (P.1 0)), (2, .ref (PM.1 0)), (3, .ref ao), (4, .int l4)] X kd_L_law_466 (Nat.le_of_ble_eq_true rfl) rfl rfl ?_
        refine zl_aload_n 469 3 X kd_L_law_468 rfl rfl rfl ?_
        refine zl_aload_n 470 1 X kd_L_law_469 rfl rfl rfl ?_
        refine zl_iload 472 5 X kd_L_law_470 rfl rfl ?_
        refine zl_iconst 473 1 X kd_L_law_472 ki_1 rfl ?_
        refine zl_iadd 474 X kd_L_law_473 rfl ?_
        refine zl_nmi (fun v40 => ?_)
        refine zl_ng (fun hg => ?_)
        refine zl_sld 475 X Z kd_L_law_474 hg rfl ?_
        refine zl_cM 478 (As := [.int (xs v40.toNatClampNeg)]) (rest := []) X Z kc_L_69 (Nat.le_of_ble_eq_true rfl) (Nat.le_of_ble_eq_true rfl) (fun p hp => c_M_get Z.2.1 ((p39.2, s0.2)).2 (xs v40.toNatClampNeg) hp) rfl rfl (Nat.le_of_ble_eq_true rfl) hc hs kd_L_law_475 rfl (fun p41 => ?_)
        refine zl_istore 480 [(6, .int p41.1), (5, .int p39.1), (0, .ref b), (1, .ref (P.1 0)), (2, .ref (PM.1 0)), (3, .ref ao), (4, .int l4)] X kd_L_law_478 (Nat.le_of_ble_eq_true rfl) rfl rfl ?_
        refine zl_aload_n 481 4 X kd_L_law_480 rfl rfl rfl ?_
        refine zl_cM 484 (As := []) (rest := []) X Z kc_L_42 (Nat.le_of_ble_eq_true rfl) (Nat.le_of_ble_eq_true rfl) (fun p hp => c_M_thrown Z.2.1 ((((p39.2, s0.2)).1, p41.2)).2  hp) rfl rfl (Nat.le_of_ble_eq_true rfl) hc hs kd_L_law_481 rfl (fun p42 => ?_)
        refine zl_iload 486 1 X kd_L_law_484 rfl rfl ?_
        refine zl_icmp_eq 491 489 X kd_L_law_486 rfl rfl (fun _ => ?_) (fun _ => ?_)
        · refine zl_iload 493 1 X kd_L_law_491 rfl rfl ?_
          refine zl_if_ne 508 496 X kd_L_law_493 rfl rfl (fun _ => ?_) (fun _ => ?_)
          · refine zl_aload_n 497 5 X kd_L_law_496 rfl rfl rfl ?_
            refine zl_iconst 498 0 X kd_L_law_497 ki_0 rfl ?_
            refine zl_lald 499 X Z kd_L_law_498 rfl ?_
            refine zl_iload 501 0 X kd_L_law_499 rfl rfl ?_
            refine zl_i2l 502 X kd_L_law_501 rfl ?_
            refine zl_lcmp 503 X kd_L_law_502 rfl ?_
            refine zl_if_eq 508 506 X kd_L_law_503 rfl rfl (fun _ => ?_) (fun _ => ?_)
            · refine zl_loc [2, 3, 4, 5, 6] (L2 := [(0, .ref b), (1, .ref (P.1 0)), (2, .ref (PM.1 0)), (3, .ref ao), (4, .int l4)]) rfl ?_
              exact j_L_law_508 X Z hfin hc hs (f_L_law_23 xs Ls n) hK ((((((p39.2, s0.2)).1, p41.2)).1, p42.2)) l4
            · exact zl_none
          · refine zl_loc [2, 3, 4, 5, 6] (L2 := [(0, .ref b), (1, .ref (P.1 0)), (2, .ref (PM.1 0)), (3, .ref ao), (4, .int l4)]) rfl ?_
            exact j_L_law_508 X Z hfin hc hs (f_L_law_23 xs Ls n) hK ((((((p39.2, s0.2)).1, p41.2)).1, p42.2)) l4
        · exact zl_none
      refine zl_tcase 511 X kd_L_law_39 (by decide) (by decide) rfl rfl (fun _ => ?_) (fun h8 => ?_)
      · refine zl_aload_n 512 1 X kd_L_law_511 rfl rfl rfl ?_
        refine zl_aload_n 513 0 X kd_L_law_512 rfl rfl rfl ?_
        refine zl_iload 515 4 X kd_L_law_513 rfl rfl ?_
        refine zl_iconst 516 1 X kd_L_law_515 ki_1 rfl ?_
        refine zl_iadd 517 X kd_L_law_516 rfl ?_
        refine zl_nmi (fun v43 => ?_)
        refine zl_ng (fun hg => ?_)
        refine zl_sld 518 X Z kd_L_law_517 hg rfl ?_
        refine zl_cC 521 (As := [.int (xs v43.toNatClampNeg)]) (rest := []) X Z kc_L_70 (Nat.le_of_ble_eq_true rfl) (Nat.le_of_ble_eq_true rfl) (fun p hp => c_F_gone Z.1 s0.1 (xs v43.toNatClampNeg) hp) rfl rfl (Nat.le_of_ble_eq_true rfl) (Nat.le_of_succ_le hc) (Nat.le_trans (Nat.le_add_right _ 6) hs) kd_L_law_518 rfl (fun p44 => ?_)
        refine zl_aload_n 522 2 X kd_L_law_521 rfl rfl rfl ?_
        refine zl_aload_n 523 0 X kd_L_law_522 rfl rfl rfl ?_
        refine zl_iload 525 4 X kd_L_law_523 rfl rfl ?_
        refine zl_iconst 526 1 X kd_L_law_525 ki_1 rfl ?_
        refine zl_iadd 527 X kd_L_law_526 rfl ?_
        refine zl_nmi (fun v45 => ?_)
        refine zl_ng (fun hg => ?_)
        refine zl_sld 528 X Z kd_L_law_527 hg rfl ?_
        refine zl_cM 531 (As := [.int (xs v45.toNatClampNeg)]) (rest := [.int p44.1]) X Z kc_L_73 (Nat.le_of_ble_eq_true rfl) (Nat.le_of_ble_eq_true rfl) (fun p hp => c_M_gone Z.2.1 ((zs_mix p44.2 s0.1, s0.2)).2 (xs v45.toNatClampNeg) hp) rfl rfl (Nat.le_of_ble_eq_true rfl) (Nat.le_of_succ_le hc) (Nat.le_trans (Nat.le_add_right _ 6) hs) kd_L_law_528 rfl (fun p46 => ?_)
        refine zl_icmp_eq 561 534 X kd_L_law_531 rfl rfl (fun _ => ?_) (fun _ => ?_)
        · refine zl_wide (cells + 1) (slots + 6) (Nat.le_succ _) (by omega) ?_
          exact j_L_law_561 X Z hfin hc hs (f_L_law_23 xs Ls n) hK ((((zs_mix p44.2 s0.1, s0.2)).1, p46.2)) l4
        · exact zl_none
      refine zl_tcase 536 X kd_L_law_39 (by decide) (by decide) rfl rfl (fun _ => ?_) (fun h9 => ?_)
      · refine zl_aload_n 537 1 X kd_L_law_536 rfl rfl rfl ?_
        refine zl_aload_n 538 0 X kd_L_law_537 rfl rfl rfl ?_
        refine zl_iload 540 4 X kd_L_law_538 rfl rfl ?_
        refine zl_iconst 541 1 X kd_L_law_540 ki_1 rfl ?_
        refine zl_iadd 542 X kd_L_law_541 rfl ?_
        refine zl_nmi (fun v47 => ?_)
        refine zl_ng (fun hg => ?_)
        refine zl_sld 543 X Z kd_L_law_542 hg rfl ?_
        refine zl_cC 546 (As := [.int (xs v47.toNatClampNeg)]) (rest := []) X Z kc_L_74 (Nat.le_of_ble_eq_true rfl) (Nat.le_of_ble_eq_true rfl) (fun p hp => c_F_about Z.1 s0.1 (xs v47.toNatClampNeg) hp) rfl rfl (Nat.le_of_ble_eq_true rfl) (Nat.le_of_succ_le hc) (Nat.le_trans (Nat.le_add_right _ 6) hs) kd_L_law_543 rfl (fun p48 => ?_)
        refine zl_aload_n 547 2 X kd_L_law_546 rfl rfl rfl ?_
        refine zl_aload_n 548 0 X kd_L_law_547 rfl rfl rfl ?_
        refine zl_iload 550 4 X kd_L_law_548 rfl rfl ?_
        refine zl_iconst 551 1 X kd_L_law_550 ki_1 rfl ?_
        refine zl_iadd 552 X kd_L_law_551 rfl ?_
        refine zl_nmi (fun v49 => ?_)
        refine zl_ng (fun hg => ?_)
        refine zl_sld 553 X Z kd_L_law_552 hg rfl ?_
        refine zl_cM 556 (As := [.int (xs v49.toNatClampNeg)]) (rest := [.int p48.1]) X Z kc_L_77 (Nat.le_of_ble_eq_true rfl) (Nat.le_of_ble_eq_true rfl) (fun p hp => c_M_about Z.2.1 ((zs_mix p48.2 s0.1, s0.2)).2 (xs v49.toNatClampNeg) hp) rfl rfl (Nat.le_of_ble_eq_true rfl) (Nat.le_of_succ_le hc) (Nat.le_trans (Nat.le_add_right _ 6) hs) kd_L_law_553 rfl (fun p50 => ?_)
        refine zl_icmp_eq 561 559 X kd_L_law_556 rfl rfl (fun _ => ?_) (fun _ => ?_)
        · refine zl_wide (cells + 1) (slots + 6) (Nat.le_succ _) (by omega) ?_
          exact j_L_law_561 X Z hfin hc hs (f_L_law_23 xs Ls n) hK ((((zs_mix p48.2 s0.1, s0.2)).1, p50.2)) l4
        · exact zl_none
      refine zl_tdef 561 X kd_L_law_39 (by have h0 := lv_neT (a := 0) h0 rfl; have h1 := lv_neT (a := 1) h1 rfl; have h2 := lv_neT (a := 2) h2 rfl; have h3 := lv_neT (a := 3) h3 rfl; have h4 := lv_neT (a := 4) h4 rfl; have h5 := lv_neT (a := 5) h5 rfl; have h6 := lv_neT (a := 6) h6 rfl; have h7 := lv_neT (a := 7) h7 rfl; have h8 := lv_neT (a := 8) h8 rfl; have h9 := lv_neT (a := 9) h9 rfl; omega) rfl ?_
      refine zl_wide (cells + 1) (slots + 6) (Nat.le_succ _) (by omega) ?_
      exact j_L_law_561 X Z hfin hc hs (f_L_law_23 xs Ls n) hK s0 l4
