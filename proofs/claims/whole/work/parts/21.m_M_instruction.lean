-- FrameMachineModel.instruction()V
theorem kd_M_instruction_0 : decode b_M_instruction 0 = .ok (.aload_n 0, 1) := by decide +kernel
theorem kd_M_instruction_1 : decode b_M_instruction 1 = .ok (.getfield 119, 3) := by decide +kernel
theorem kd_M_instruction_4 : decode b_M_instruction 4 = .ok (.istore_n 1, 1) := by decide +kernel
theorem kd_M_instruction_5 : decode b_M_instruction 5 = .ok (.aload_n 0, 1) := by decide +kernel
theorem kd_M_instruction_6 : decode b_M_instruction 6 = .ok (.getfield 103, 3) := by decide +kernel
theorem kd_M_instruction_9 : decode b_M_instruction 9 = .ok (.istore_n 2, 1) := by decide +kernel
theorem kd_M_instruction_10 : decode b_M_instruction 10 = .ok (.aload_n 0, 1) := by decide +kernel
theorem kd_M_instruction_11 : decode b_M_instruction 11 = .ok (.iconst 0, 1) := by decide +kernel
theorem kd_M_instruction_12 : decode b_M_instruction 12 = .ok (.putfield 265, 3) := by decide +kernel
theorem kd_M_instruction_15 : decode b_M_instruction 15 = .ok (.aload_n 0, 1) := by decide +kernel
theorem kd_M_instruction_16 : decode b_M_instruction 16 = .ok (.iconst 0, 1) := by decide +kernel
theorem kd_M_instruction_17 : decode b_M_instruction 17 = .ok (.putfield 174, 3) := by decide +kernel
theorem kd_M_instruction_20 : decode b_M_instruction 20 = .ok (.aload_n 0, 1) := by decide +kernel
theorem kd_M_instruction_21 : decode b_M_instruction 21 = .ok (.iconst 0, 1) := by decide +kernel
theorem kd_M_instruction_22 : decode b_M_instruction 22 = .ok (.putfield 262, 3) := by decide +kernel
theorem kd_M_instruction_25 : decode b_M_instruction 25 = .ok (.aload_n 0, 1) := by decide +kernel
theorem kd_M_instruction_26 : decode b_M_instruction 26 = .ok (.invokevirtual 110, 3) := by decide +kernel
theorem kd_M_instruction_29 : decode b_M_instruction 29 = .ok (.istore_n 3, 1) := by decide +kernel
theorem kd_M_instruction_30 : decode b_M_instruction 30 = .ok (.aload_n 0, 1) := by decide +kernel
theorem kd_M_instruction_31 : decode b_M_instruction 31 = .ok (.aload_n 0, 1) := by decide +kernel
theorem kd_M_instruction_32 : decode b_M_instruction 32 = .ok (.getfield 64, 3) := by decide +kernel
theorem kd_M_instruction_35 : decode b_M_instruction 35 = .ok (.ifCond .ne 7, 3) := by decide +kernel
theorem kd_M_instruction_38 : decode b_M_instruction 38 = .ok (.iload_n 3, 1) := by decide +kernel
theorem kd_M_instruction_39 : decode b_M_instruction 39 = .ok (.goto 4, 3) := by decide +kernel
theorem kd_M_instruction_42 : decode b_M_instruction 42 = .ok (.iconst 0, 1) := by decide +kernel
theorem kd_M_instruction_43 : decode b_M_instruction 43 = .ok (.putfield 265, 3) := by decide +kernel
theorem kd_M_instruction_46 : decode b_M_instruction 46 = .ok (.iload_n 3, 1) := by decide +kernel
theorem kd_M_instruction_47 : decode b_M_instruction 47 = .ok (.bipush 11, 2) := by decide +kernel
theorem kd_M_instruction_49 : decode b_M_instruction 49 = .ok (.ishr, 1) := by decide +kernel
theorem kd_M_instruction_50 : decode b_M_instruction 50 = .ok (.istore 4, 2) := by decide +kernel
theorem kd_M_instruction_52 : decode b_M_instruction 52 = .ok (.iload_n 3, 1) := by decide +kernel
theorem kd_M_instruction_53 : decode b_M_instruction 53 = .ok (.bipush 9, 2) := by decide +kernel
theorem kd_M_instruction_55 : decode b_M_instruction 55 = .ok (.ishr, 1) := by decide +kernel
theorem kd_M_instruction_56 : decode b_M_instruction 56 = .ok (.iconst 3, 1) := by decide +kernel
theorem kd_M_instruction_57 : decode b_M_instruction 57 = .ok (.iand, 1) := by decide +kernel
theorem kd_M_instruction_58 : decode b_M_instruction 58 = .ok (.istore 5, 2) := by decide +kernel
theorem kd_M_instruction_60 : decode b_M_instruction 60 = .ok (.iload_n 3, 1) := by decide +kernel
theorem kd_M_instruction_61 : decode b_M_instruction 61 = .ok (.bipush 6, 2) := by decide +kernel
theorem kd_M_instruction_63 : decode b_M_instruction 63 = .ok (.ishr, 1) := by decide +kernel
theorem kd_M_instruction_64 : decode b_M_instruction 64 = .ok (.bipush 7, 2) := by decide +kernel
theorem kd_M_instruction_66 : decode b_M_instruction 66 = .ok (.iand, 1) := by decide +kernel
theorem kd_M_instruction_67 : decode b_M_instruction 67 = .ok (.istore 6, 2) := by decide +kernel
theorem kd_M_instruction_69 : decode b_M_instruction 69 = .ok (.iload_n 3, 1) := by decide +kernel
theorem kd_M_instruction_70 : decode b_M_instruction 70 = .ok (.iconst 3, 1) := by decide +kernel
theorem kd_M_instruction_71 : decode b_M_instruction 71 = .ok (.ishr, 1) := by decide +kernel
theorem kd_M_instruction_72 : decode b_M_instruction 72 = .ok (.bipush 7, 2) := by decide +kernel
theorem kd_M_instruction_74 : decode b_M_instruction 74 = .ok (.iand, 1) := by decide +kernel
theorem kd_M_instruction_75 : decode b_M_instruction 75 = .ok (.istore 7, 2) := by decide +kernel
theorem kd_M_instruction_77 : decode b_M_instruction 77 = .ok (.iload_n 3, 1) := by decide +kernel
theorem kd_M_instruction_78 : decode b_M_instruction 78 = .ok (.bipush 7, 2) := by decide +kernel
theorem kd_M_instruction_80 : decode b_M_instruction 80 = .ok (.iand, 1) := by decide +kernel
theorem kd_M_instruction_81 : decode b_M_instruction 81 = .ok (.istore 8, 2) := by decide +kernel
theorem kd_M_instruction_83 : decode b_M_instruction 83 = .ok (.aload_n 0, 1) := by decide +kernel
theorem kd_M_instruction_84 : decode b_M_instruction 84 = .ok (.getfield 64, 3) := by decide +kernel
theorem kd_M_instruction_87 : decode b_M_instruction 87 = .ok (.ifCond .ne 29, 3) := by decide +kernel
theorem kd_M_instruction_90 : decode b_M_instruction 90 = .ok (.iload 4, 2) := by decide +kernel
theorem kd_M_instruction_92 : decode b_M_instruction 92 = .ok (.iload 5, 2) := by decide +kernel
theorem kd_M_instruction_94 : decode b_M_instruction 94 = .ok (.iload 6, 2) := by decide +kernel
theorem kd_M_instruction_96 : decode b_M_instruction 96 = .ok (.iload 7, 2) := by decide +kernel
theorem kd_M_instruction_98 : decode b_M_instruction 98 = .ok (.iload 8, 2) := by decide +kernel
theorem kd_M_instruction_100 : decode b_M_instruction 100 = .ok (.invokestatic 268, 3) := by decide +kernel
theorem kd_M_instruction_103 : decode b_M_instruction 103 = .ok (.ifCond .ne 13, 3) := by decide +kernel
theorem kd_M_instruction_106 : decode b_M_instruction 106 = .ok (.aload_n 0, 1) := by decide +kernel
theorem kd_M_instruction_107 : decode b_M_instruction 107 = .ok (.iconst 4, 1) := by decide +kernel
theorem kd_M_instruction_108 : decode b_M_instruction 108 = .ok (.iload_n 2, 1) := by decide +kernel
theorem kd_M_instruction_109 : decode b_M_instruction 109 = .ok (.iconst (-1), 1) := by decide +kernel
theorem kd_M_instruction_110 : decode b_M_instruction 110 = .ok (.invokevirtual 272, 3) := by decide +kernel
theorem kd_M_instruction_113 : decode b_M_instruction 113 = .ok (.goto 102, 3) := by decide +kernel
theorem kd_M_instruction_116 : decode b_M_instruction 116 = .ok (.aload_n 0, 1) := by decide +kernel
theorem kd_M_instruction_117 : decode b_M_instruction 117 = .ok (.getfield 64, 3) := by decide +kernel
theorem kd_M_instruction_120 : decode b_M_instruction 120 = .ok (.ifCond .ne 31, 3) := by decide +kernel
theorem kd_M_instruction_123 : decode b_M_instruction 123 = .ok (.aload_n 0, 1) := by decide +kernel
theorem kd_M_instruction_124 : decode b_M_instruction 124 = .ok (.getfield 19, 3) := by decide +kernel
theorem kd_M_instruction_127 : decode b_M_instruction 127 = .ok (.ifCond .ne 24, 3) := by decide +kernel
theorem kd_M_instruction_130 : decode b_M_instruction 130 = .ok (.iload 4, 2) := by decide +kernel
theorem kd_M_instruction_132 : decode b_M_instruction 132 = .ok (.iload 8, 2) := by decide +kernel
theorem kd_M_instruction_134 : decode b_M_instruction 134 = .ok (.invokestatic 275, 3) := by decide +kernel
theorem kd_M_instruction_137 : decode b_M_instruction 137 = .ok (.ifCond .eq 14, 3) := by decide +kernel
theorem kd_M_instruction_140 : decode b_M_instruction 140 = .ok (.aload_n 0, 1) := by decide +kernel
theorem kd_M_instruction_141 : decode b_M_instruction 141 = .ok (.bipush 8, 2) := by decide +kernel
theorem kd_M_instruction_143 : decode b_M_instruction 143 = .ok (.iload_n 2, 1) := by decide +kernel
theorem kd_M_instruction_144 : decode b_M_instruction 144 = .ok (.iconst (-1), 1) := by decide +kernel
theorem kd_M_instruction_145 : decode b_M_instruction 145 = .ok (.invokevirtual 272, 3) := by decide +kernel
theorem kd_M_instruction_148 : decode b_M_instruction 148 = .ok (.goto 67, 3) := by decide +kernel
theorem kd_M_instruction_151 : decode b_M_instruction 151 = .ok (.aload_n 0, 1) := by decide +kernel
theorem kd_M_instruction_152 : decode b_M_instruction 152 = .ok (.getfield 64, 3) := by decide +kernel
theorem kd_M_instruction_155 : decode b_M_instruction 155 = .ok (.ifCond .ne 17, 3) := by decide +kernel
theorem kd_M_instruction_158 : decode b_M_instruction 158 = .ok (.aload_n 0, 1) := by decide +kernel
theorem kd_M_instruction_159 : decode b_M_instruction 159 = .ok (.iload 4, 2) := by decide +kernel
theorem kd_M_instruction_161 : decode b_M_instruction 161 = .ok (.iload 5, 2) := by decide +kernel
theorem kd_M_instruction_163 : decode b_M_instruction 163 = .ok (.iload 6, 2) := by decide +kernel
theorem kd_M_instruction_165 : decode b_M_instruction 165 = .ok (.iload 7, 2) := by decide +kernel
theorem kd_M_instruction_167 : decode b_M_instruction 167 = .ok (.iload 8, 2) := by decide +kernel
theorem kd_M_instruction_169 : decode b_M_instruction 169 = .ok (.invokevirtual 278, 3) := by decide +kernel
theorem kd_M_instruction_172 : decode b_M_instruction 172 = .ok (.aload_n 0, 1) := by decide +kernel
theorem kd_M_instruction_173 : decode b_M_instruction 173 = .ok (.getfield 64, 3) := by decide +kernel
theorem kd_M_instruction_176 : decode b_M_instruction 176 = .ok (.ifCond .eq 19, 3) := by decide +kernel
theorem kd_M_instruction_179 : decode b_M_instruction 179 = .ok (.aload_n 0, 1) := by decide +kernel
theorem kd_M_instruction_180 : decode b_M_instruction 180 = .ok (.aload_n 0, 1) := by decide +kernel
theorem kd_M_instruction_181 : decode b_M_instruction 181 = .ok (.getfield 64, 3) := by decide +kernel
theorem kd_M_instruction_184 : decode b_M_instruction 184 = .ok (.aload_n 0, 1) := by decide +kernel
theorem kd_M_instruction_185 : decode b_M_instruction 185 = .ok (.getfield 103, 3) := by decide +kernel
theorem kd_M_instruction_188 : decode b_M_instruction 188 = .ok (.iconst (-1), 1) := by decide +kernel
theorem kd_M_instruction_189 : decode b_M_instruction 189 = .ok (.invokevirtual 272, 3) := by decide +kernel
theorem kd_M_instruction_192 : decode b_M_instruction 192 = .ok (.goto 23, 3) := by decide +kernel
theorem kd_M_instruction_195 : decode b_M_instruction 195 = .ok (.aload_n 0, 1) := by decide +kernel
theorem kd_M_instruction_196 : decode b_M_instruction 196 = .ok (.getfield 174, 3) := by decide +kernel
theorem kd_M_instruction_199 : decode b_M_instruction 199 = .ok (.ifCond .eq 16, 3) := by decide +kernel
theorem kd_M_instruction_202 : decode b_M_instruction 202 = .ok (.aload_n 0, 1) := by decide +kernel
theorem kd_M_instruction_203 : decode b_M_instruction 203 = .ok (.aload_n 0, 1) := by decide +kernel
theorem kd_M_instruction_204 : decode b_M_instruction 204 = .ok (.getfield 174, 3) := by decide +kernel
theorem kd_M_instruction_207 : decode b_M_instruction 207 = .ok (.aload_n 0, 1) := by decide +kernel
theorem kd_M_instruction_208 : decode b_M_instruction 208 = .ok (.getfield 103, 3) := by decide +kernel
theorem kd_M_instruction_211 : decode b_M_instruction 211 = .ok (.iconst (-1), 1) := by decide +kernel
theorem kd_M_instruction_212 : decode b_M_instruction 212 = .ok (.invokevirtual 272, 3) := by decide +kernel
theorem kd_M_instruction_215 : decode b_M_instruction 215 = .ok (.iload_n 1, 1) := by decide +kernel
theorem kd_M_instruction_216 : decode b_M_instruction 216 = .ok (.iconst 1, 1) := by decide +kernel
theorem kd_M_instruction_217 : decode b_M_instruction 217 = .ok (.if_icmp .ne 46, 3) := by decide +kernel
theorem kd_M_instruction_220 : decode b_M_instruction 220 = .ok (.aload_n 0, 1) := by decide +kernel
theorem kd_M_instruction_221 : decode b_M_instruction 221 = .ok (.getfield 229, 3) := by decide +kernel
theorem kd_M_instruction_224 : decode b_M_instruction 224 = .ok (.ifCond .ne 39, 3) := by decide +kernel
theorem kd_M_instruction_227 : decode b_M_instruction 227 = .ok (.aload_n 0, 1) := by decide +kernel
theorem kd_M_instruction_228 : decode b_M_instruction 228 = .ok (.getfield 262, 3) := by decide +kernel
theorem kd_M_instruction_231 : decode b_M_instruction 231 = .ok (.iconst 2, 1) := by decide +kernel
theorem kd_M_instruction_232 : decode b_M_instruction 232 = .ok (.if_icmp .lt 20, 3) := by decide +kernel
theorem kd_M_instruction_235 : decode b_M_instruction 235 = .ok (.aload_n 0, 1) := by decide +kernel
theorem kd_M_instruction_236 : decode b_M_instruction 236 = .ok (.getfield 262, 3) := by decide +kernel
theorem kd_M_instruction_239 : decode b_M_instruction 239 = .ok (.iconst 4, 1) := by decide +kernel
theorem kd_M_instruction_240 : decode b_M_instruction 240 = .ok (.if_icmp .le 23, 3) := by decide +kernel
theorem kd_M_instruction_243 : decode b_M_instruction 243 = .ok (.aload_n 0, 1) := by decide +kernel
theorem kd_M_instruction_244 : decode b_M_instruction 244 = .ok (.getfield 262, 3) := by decide +kernel
theorem kd_M_instruction_247 : decode b_M_instruction 247 = .ok (.bipush 8, 2) := by decide +kernel
theorem kd_M_instruction_249 : decode b_M_instruction 249 = .ok (.if_icmp .eq 14, 3) := by decide +kernel
theorem kd_M_instruction_252 : decode b_M_instruction 252 = .ok (.aload_n 0, 1) := by decide +kernel
theorem kd_M_instruction_253 : decode b_M_instruction 253 = .ok (.bipush 9, 2) := by decide +kernel
theorem kd_M_instruction_255 : decode b_M_instruction 255 = .ok (.aload_n 0, 1) := by decide +kernel
theorem kd_M_instruction_256 : decode b_M_instruction 256 = .ok (.getfield 103, 3) := by decide +kernel
theorem kd_M_instruction_259 : decode b_M_instruction 259 = .ok (.iconst (-1), 1) := by decide +kernel
theorem kd_M_instruction_260 : decode b_M_instruction 260 = .ok (.invokevirtual 272, 3) := by decide +kernel
theorem kd_M_instruction_263 : decode b_M_instruction 263 = .ok (.return_, 1) := by decide +kernel
noncomputable def f_M_instruction_252 (s0 : ZS)  : Option (ZS) :=
  (f_M_exception s0 9 (s0 0 2) ((-1))).bind fun s13 =>
  some s13
noncomputable def f_M_instruction_215 (s0 : ZS) (l1 : Int32) : Option (ZS) :=
  if l1 = 1 then
    if (s0 0 11) = 0 then
      if (s0 0 20) < 2 then
        f_M_instruction_252 s0
      else
        if (s0 0 20) ≤ 4 then
          some s0
        else
          if (s0 0 20) = 8 then
            some s0
          else
            f_M_instruction_252 s0
    else
      some s0
  else
    some s0
noncomputable def f_M_instruction_172 (s0 : ZS) (l1 : Int32) : Option (ZS) :=
  if (s0 0 15) = 0 then
    if (s0 0 19) = 0 then
      f_M_instruction_215 s0 l1
    else
      (f_M_exception s0 (s0 0 19) (s0 0 2) ((-1))).bind fun s14 =>
      f_M_instruction_215 s14 l1
  else
    (f_M_exception s0 (s0 0 15) (s0 0 2) ((-1))).bind fun s15 =>
    f_M_instruction_215 s15 l1
noncomputable def f_M_instruction_151 (s0 : ZS) (l1 : Int32) (l4 : Int32) (l5 : Int32) (l6 : Int32) (l7 : Int32) (l8 : Int32) : Option (ZS) :=
  if (s0 0 15) = 0 then
    (f_M_does s0 l4 l5 l6 l7 l8).bind fun s16 =>
    f_M_instruction_172 s16 l1
  else
    f_M_instruction_172 s0 l1
noncomputable def f_M_instruction_116 (s0 : ZS) (l1 : Int32) (l2 : Int32) (l4 : Int32) (l5 : Int32) (l6 : Int32) (l7 : Int32) (l8 : Int32) : Option (ZS) :=
  if (s0 0 15) = 0 then
    if (s0 0 4) = 0 then
      (f_M_needsAbove s0 l4 l8).bind fun p17 =>
      if p17.1 = 0 then
        f_M_instruction_151 p17.2 l1 l4 l5 l6 l7 l8
      else
        (f_M_exception p17.2 8 l2 ((-1))).bind fun s18 =>
        f_M_instruction_215 s18 l1
    else
      f_M_instruction_151 s0 l1 l4 l5 l6 l7 l8
  else
    f_M_instruction_151 s0 l1 l4 l5 l6 l7 l8
noncomputable def f_M_instruction_43 (s0 : ZS) (l1 : Int32) (l2 : Int32) (l3 : Int32) (t0 : Int32) : Option (ZS) :=
  zs_nm (zs_up s0 0 18 t0) fun s7 =>
  zs_nm (zo_shr l3 11) fun v8 =>
  zs_nm ((zo_shr l3 9) &&& 3) fun v9 =>
  zs_nm ((zo_shr l3 6) &&& 7) fun v10 =>
  zs_nm ((zo_shr l3 3) &&& 7) fun v11 =>
  zs_nm (l3 &&& 7) fun v12 =>
  if (s7 0 15) = 0 then
    (f_M_legal s7 v8 v9 v10 v11 v12).bind fun p19 =>
    if p19.1 = 0 then
      (f_M_exception p19.2 4 l2 ((-1))).bind fun s20 =>
      f_M_instruction_215 s20 l1
    else
      f_M_instruction_116 p19.2 l1 l2 v8 v9 v10 v11 v12
  else
    f_M_instruction_116 s7 l1 l2 v8 v9 v10 v11 v12
noncomputable def f_M_instruction (s0 : ZS)  : Option (ZS) :=
  zs_nm (s0 0 3) fun v1 =>
  zs_nm (s0 0 2) fun v2 =>
  zs_nm (zs_up s0 0 18 0) fun s3 =>
  zs_nm (zs_up s3 0 19 0) fun s4 =>
  zs_nm (zs_up s4 0 20 0) fun s5 =>
  (f_M_fetch s5 ).bind fun p6 =>
  if (p6.2 0 15) = 0 then
    f_M_instruction_43 p6.2 v1 v2 p6.1 p6.1
  else
    f_M_instruction_43 p6.2 v1 v2 p6.1 0
theorem j_M_instruction_252 {P : ZP} {E : ZE} {A : Nat → Prop} (X : ZX E (zmV P) A "FrameMachineModel" b_M_instruction 9 none 7 178) (s0 : ZS)  : ZJ E (zmV P) A 9 (zFv E (zmV P) A) 252 [(0, .ref (P.1 0))] [] s0 (f_M_instruction_252 s0) := by
  unfold f_M_instruction_252
  refine zj_aload_n 253 0 X kd_M_instruction_252 rfl rfl rfl ?_
  refine zj_bipush 255 9 X kd_M_instruction_253 kb_9 rfl ?_
  refine zj_aload_n 256 0 X kd_M_instruction_255 rfl rfl rfl ?_
  refine gf_M_103 259 X kd_M_instruction_256 rfl ?_
  refine zj_iconst 260 ((-1)) X kd_M_instruction_259 ki_m1 rfl ?_
  refine mc_M_272 263 X kd_M_instruction_260 (Nat.le_of_ble_eq_true rfl) (Nat.le_of_ble_eq_true rfl) (Nat.le_of_ble_eq_true rfl) rfl (fun s13 => ?_)
  exact zj_vret X kd_M_instruction_263
theorem j_M_instruction_215 {P : ZP} {E : ZE} {A : Nat → Prop} (X : ZX E (zmV P) A "FrameMachineModel" b_M_instruction 9 none 7 178) (s0 : ZS) (l1 : Int32) : ZJ E (zmV P) A 9 (zFv E (zmV P) A) 215 [(0, .ref (P.1 0)), (1, .int l1)] [] s0 (f_M_instruction_215 s0 l1) := by
  unfold f_M_instruction_215
  refine zj_iload_n 216 1 X kd_M_instruction_215 rfl rfl rfl ?_
  refine zj_iconst 217 1 X kd_M_instruction_216 ki_1 rfl ?_
  refine zj_icmp_ne 263 220 X kd_M_instruction_217 rfl rfl (fun _ => ?_) (fun _ => ?_)
  · refine zj_aload_n 221 0 X kd_M_instruction_220 rfl rfl rfl ?_
    refine gf_M_229 224 X kd_M_instruction_221 rfl ?_
    refine zj_if_ne 263 227 X kd_M_instruction_224 rfl rfl (fun _ => ?_) (fun _ => ?_)
    · refine zj_aload_n 228 0 X kd_M_instruction_227 rfl rfl rfl ?_
      refine gf_M_262 231 X kd_M_instruction_228 rfl ?_
      refine zj_iconst 232 2 X kd_M_instruction_231 ki_2 rfl ?_
      refine zj_icmp_lt 252 235 X kd_M_instruction_232 rfl rfl (fun _ => ?_) (fun _ => ?_)
      · refine zj_loc [0] (L2 := [(0, .ref (P.1 0))]) rfl ?_
        exact j_M_instruction_252 X s0
      · refine zj_aload_n 236 0 X kd_M_instruction_235 rfl rfl rfl ?_
        refine gf_M_262 239 X kd_M_instruction_236 rfl ?_
        refine zj_iconst 240 4 X kd_M_instruction_239 ki_4 rfl ?_
        refine zj_icmp_le 263 243 X kd_M_instruction_240 rfl rfl (fun _ => ?_) (fun _ => ?_)
        · exact zj_vret X kd_M_instruction_263
        · refine zj_aload_n 244 0 X kd_M_instruction_243 rfl rfl rfl ?_
          refine gf_M_262 247 X kd_M_instruction_244 rfl ?_
          refine zj_bipush 249 8 X kd_M_instruction_247 kb_8 rfl ?_
          refine zj_icmp_eq 263 252 X kd_M_instruction_249 rfl rfl (fun _ => ?_) (fun _ => ?_)
          · exact zj_vret X kd_M_instruction_263
          · refine zj_loc [0] (L2 := [(0, .ref (P.1 0))]) rfl ?_
            exact j_M_instruction_252 X s0
    · exact zj_vret X kd_M_instruction_263
  · exact zj_vret X kd_M_instruction_263
theorem j_M_instruction_172 {P : ZP} {E : ZE} {A : Nat → Prop} (X : ZX E (zmV P) A "FrameMachineModel" b_M_instruction 9 none 7 178) (s0 : ZS) (l1 : Int32) : ZJ E (zmV P) A 9 (zFv E (zmV P) A) 172 [(0, .ref (P.1 0)), (1, .int l1)] [] s0 (f_M_instruction_172 s0 l1) := by
  unfold f_M_instruction_172
  refine zj_aload_n 173 0 X kd_M_instruction_172 rfl rfl rfl ?_
  refine gf_M_64 176 X kd_M_instruction_173 rfl ?_
  refine zj_if_eq 195 179 X kd_M_instruction_176 rfl rfl (fun _ => ?_) (fun _ => ?_)
  · refine zj_aload_n 196 0 X kd_M_instruction_195 rfl rfl rfl ?_
    refine gf_M_174 199 X kd_M_instruction_196 rfl ?_
    refine zj_if_eq 215 202 X kd_M_instruction_199 rfl rfl (fun _ => ?_) (fun _ => ?_)
    · exact j_M_instruction_215 X s0 l1
    · refine zj_aload_n 203 0 X kd_M_instruction_202 rfl rfl rfl ?_
      refine zj_aload_n 204 0 X kd_M_instruction_203 rfl rfl rfl ?_
      refine gf_M_174 207 X kd_M_instruction_204 rfl ?_
      refine zj_aload_n 208 0 X kd_M_instruction_207 rfl rfl rfl ?_
      refine gf_M_103 211 X kd_M_instruction_208 rfl ?_
      refine zj_iconst 212 ((-1)) X kd_M_instruction_211 ki_m1 rfl ?_
      refine mc_M_272 215 X kd_M_instruction_212 (Nat.le_of_ble_eq_true rfl) (Nat.le_of_ble_eq_true rfl) (Nat.le_of_ble_eq_true rfl) rfl (fun s14 => ?_)
      exact j_M_instruction_215 X s14 l1
  · refine zj_aload_n 180 0 X kd_M_instruction_179 rfl rfl rfl ?_
    refine zj_aload_n 181 0 X kd_M_instruction_180 rfl rfl rfl ?_
    refine gf_M_64 184 X kd_M_instruction_181 rfl ?_
    refine zj_aload_n 185 0 X kd_M_instruction_184 rfl rfl rfl ?_
    refine gf_M_103 188 X kd_M_instruction_185 rfl ?_
    refine zj_iconst 189 ((-1)) X kd_M_instruction_188 ki_m1 rfl ?_
    refine mc_M_272 192 X kd_M_instruction_189 (Nat.le_of_ble_eq_true rfl) (Nat.le_of_ble_eq_true rfl) (Nat.le_of_ble_eq_true rfl) rfl (fun s15 => ?_)
    refine zj_goto 215 X kd_M_instruction_192 rfl ?_
    exact j_M_instruction_215 X s15 l1
theorem j_M_instruction_151 {P : ZP} {E : ZE} {A : Nat → Prop} (X : ZX E (zmV P) A "FrameMachineModel" b_M_instruction 9 none 7 178) (s0 : ZS) (l1 : Int32) (l4 : Int32) (l5 : Int32) (l6 : Int32) (l7 : Int32) (l8 : Int32) : ZJ E (zmV P) A 9 (zFv E (zmV P) A) 151 [(0, .ref (P.1 0)), (1, .int l1), (4, .int l4), (5, .int l5), (6, .int l6), (7, .int l7), (8, .int l8)] [] s0 (f_M_instruction_151 s0 l1 l4 l5 l6 l7 l8) := by
  unfold f_M_instruction_151
  refine zj_aload_n 152 0 X kd_M_instruction_151 rfl rfl rfl ?_
  refine gf_M_64 155 X kd_M_instruction_152 rfl ?_
  refine zj_if_ne 172 158 X kd_M_instruction_155 rfl rfl (fun _ => ?_) (fun _ => ?_)
  · refine zj_aload_n 159 0 X kd_M_instruction_158 rfl rfl rfl ?_
    refine zj_iload 161 2 X kd_M_instruction_159 rfl rfl ?_
    refine zj_iload 163 3 X kd_M_instruction_161 rfl rfl ?_
    refine zj_iload 165 4 X kd_M_instruction_163 rfl rfl ?_
    refine zj_iload 167 5 X kd_M_instruction_165 rfl rfl ?_
    refine zj_iload 169 6 X kd_M_instruction_167 rfl rfl ?_
    refine mc_M_278 172 X kd_M_instruction_169 (Nat.le_of_ble_eq_true rfl) (Nat.le_of_ble_eq_true rfl) (Nat.le_of_ble_eq_true rfl) rfl (fun s16 => ?_)
    refine zj_loc [0, 1] (L2 := [(0, .ref (P.1 0)), (1, .int l1)]) rfl ?_
    exact j_M_instruction_172 X s16 l1
  · refine zj_loc [0, 1] (L2 := [(0, .ref (P.1 0)), (1, .int l1)]) rfl ?_
    exact j_M_instruction_172 X s0 l1
theorem j_M_instruction_116 {P : ZP} {E : ZE} {A : Nat → Prop} (X : ZX E (zmV P) A "FrameMachineModel" b_M_instruction 9 none 7 178) (s0 : ZS) (l1 : Int32) (l2 : Int32) (l4 : Int32) (l5 : Int32) (l6 : Int32) (l7 : Int32) (l8 : Int32) : ZJ E (zmV P) A 9 (zFv E (zmV P) A) 116 [(0, .ref (P.1 0)), (1, .int l1), (2, .int l2), (4, .int l4), (5, .int l5), (6, .int l6), (7, .int l7), (8, .int l8)] [] s0 (f_M_instruction_116 s0 l1 l2 l4 l5 l6 l7 l8) := by
  unfold f_M_instruction_116
  refine zj_aload_n 117 0 X kd_M_instruction_116 rfl rfl rfl ?_
  refine gf_M_64 120 X kd_M_instruction_117 rfl ?_
  refine zj_if_ne 151 123 X kd_M_instruction_120 rfl rfl (fun _ => ?_) (fun _ => ?_)
  · refine zj_aload_n 124 0 X kd_M_instruction_123 rfl rfl rfl ?_
    refine gf_M_19 127 X kd_M_instruction_124 rfl ?_
    refine zj_if_ne 151 130 X kd_M_instruction_127 rfl rfl (fun _ => ?_) (fun _ => ?_)
    · refine zj_iload 132 3 X kd_M_instruction_130 rfl rfl ?_
      refine zj_iload 134 7 X kd_M_instruction_132 rfl rfl ?_
      refine mc_M_275 137 X kd_M_instruction_134 (Nat.le_of_ble_eq_true rfl) (Nat.le_of_ble_eq_true rfl) (Nat.le_of_ble_eq_true rfl) rfl (fun p17 => ?_)
      refine zj_if_eq 151 140 X kd_M_instruction_137 rfl rfl (fun _ => ?_) (fun _ => ?_)
      · refine zj_loc [0, 1, 3, 4, 5, 6, 7] (L2 := [(0, .ref (P.1 0)), (1, .int l1), (4, .int l4), (5, .int l5), (6, .int l6), (7, .int l7), (8, .int l8)]) rfl ?_
        exact j_M_instruction_151 X p17.2 l1 l4 l5 l6 l7 l8
      · refine zj_aload_n 141 0 X kd_M_instruction_140 rfl rfl rfl ?_
        refine zj_bipush 143 8 X kd_M_instruction_141 kb_8 rfl ?_
        refine zj_iload_n 144 2 X kd_M_instruction_143 rfl rfl rfl ?_
        refine zj_iconst 145 ((-1)) X kd_M_instruction_144 ki_m1 rfl ?_
        refine mc_M_272 148 X kd_M_instruction_145 (Nat.le_of_ble_eq_true rfl) (Nat.le_of_ble_eq_true rfl) (Nat.le_of_ble_eq_true rfl) rfl (fun s18 => ?_)
        refine zj_goto 215 X kd_M_instruction_148 rfl ?_
        refine zj_loc [0, 1] (L2 := [(0, .ref (P.1 0)), (1, .int l1)]) rfl ?_
        exact j_M_instruction_215 X s18 l1
    · refine zj_loc [0, 1, 3, 4, 5, 6, 7] (L2 := [(0, .ref (P.1 0)), (1, .int l1), (4, .int l4), (5, .int l5), (6, .int l6), (7, .int l7), (8, .int l8)]) rfl ?_
      exact j_M_instruction_151 X s0 l1 l4 l5 l6 l7 l8
  · refine zj_loc [0, 1, 3, 4, 5, 6, 7] (L2 := [(0, .ref (P.1 0)), (1, .int l1), (4, .int l4), (5, .int l5), (6, .int l6), (7, .int l7), (8, .int l8)]) rfl ?_
    exact j_M_instruction_151 X s0 l1 l4 l5 l6 l7 l8
theorem j_M_instruction_43 {P : ZP} {E : ZE} {A : Nat → Prop} (X : ZX E (zmV P) A "FrameMachineModel" b_M_instruction 9 none 7 178) (s0 : ZS) (l1 : Int32) (l2 : Int32) (l3 : Int32) (t0 : Int32) : ZJ E (zmV P) A 9 (zFv E (zmV P) A) 43 [(0, .ref (P.1 0)), (1, .int l1), (2, .int l2), (3, .int l3)] [.int t0, .ref (P.1 0)] s0 (f_M_instruction_43 s0 l1 l2 l3 t0) := by
  unfold f_M_instruction_43
  refine pf_M_265 46 X kd_M_instruction_43 rfl ?_
  refine zj_nms (fun s7 => ?_)
  refine zj_iload_n 47 3 X kd_M_instruction_46 rfl rfl rfl ?_
  refine zj_bipush 49 11 X kd_M_instruction_47 kb_11 rfl ?_
  refine zj_ishr 50 X kd_M_instruction_49 rfl ?_
  refine zj_nmi (fun v8 => ?_)
  refine zj_istore 52 [(4, .int v8), (0, .ref (P.1 0)), (1, .int l1), (2, .int l2), (3, .int l3)] X kd_M_instruction_50 (Nat.le_of_ble_eq_true rfl) rfl rfl ?_
  refine zj_iload_n 53 4 X kd_M_instruction_52 rfl rfl rfl ?_
  refine zj_bipush 55 9 X kd_M_instruction_53 kb_9 rfl ?_
  refine zj_ishr 56 X kd_M_instruction_55 rfl ?_
  refine zj_iconst 57 3 X kd_M_instruction_56 ki_3 rfl ?_
  refine zj_iand 58 X kd_M_instruction_57 rfl ?_
  refine zj_nmi (fun v9 => ?_)
  refine zj_istore 60 [(5, .int v9), (4, .int v8), (0, .ref (P.1 0)), (1, .int l1), (2, .int l2), (3, .int l3)] X kd_M_instruction_58 (Nat.le_of_ble_eq_true rfl) rfl rfl ?_
  refine zj_iload_n 61 5 X kd_M_instruction_60 rfl rfl rfl ?_
  refine zj_bipush 63 6 X kd_M_instruction_61 kb_6 rfl ?_
  refine zj_ishr 64 X kd_M_instruction_63 rfl ?_
  refine zj_bipush 66 7 X kd_M_instruction_64 kb_7 rfl ?_
  refine zj_iand 67 X kd_M_instruction_66 rfl ?_
  refine zj_nmi (fun v10 => ?_)
  refine zj_istore 69 [(6, .int v10), (5, .int v9), (4, .int v8), (0, .ref (P.1 0)), (1, .int l1), (2, .int l2), (3, .int l3)] X kd_M_instruction_67 (Nat.le_of_ble_eq_true rfl) rfl rfl ?_
  refine zj_iload_n 70 6 X kd_M_instruction_69 rfl rfl rfl ?_
  refine zj_iconst 71 3 X kd_M_instruction_70 ki_3 rfl ?_
  refine zj_ishr 72 X kd_M_instruction_71 rfl ?_
  refine zj_bipush 74 7 X kd_M_instruction_72 kb_7 rfl ?_
  refine zj_iand 75 X kd_M_instruction_74 rfl ?_
  refine zj_nmi (fun v11 => ?_)
  refine zj_istore 77 [(7, .int v11), (6, .int v10), (5, .int v9), (4, .int v8), (0, .ref (P.1 0)), (1, .int l1), (2, .int l2), (3, .int l3)] X kd_M_instruction_75 (Nat.le_of_ble_eq_true rfl) rfl rfl ?_
  refine zj_iload_n 78 7 X kd_M_instruction_77 rfl rfl rfl ?_
  refine zj_bipush 80 7 X kd_M_instruction_78 kb_7 rfl ?_
  refine zj_iand 81 X kd_M_instruction_80 rfl ?_
  refine zj_nmi (fun v12 => ?_)
  refine zj_istore 83 [(8, .int v12), (7, .int v11), (6, .int v10), (5, .int v9), (4, .int v8), (0, .ref (P.1 0)), (1, .int l1), (2, .int l2), (3, .int l3)] X kd_M_instruction_81 (Nat.le_of_ble_eq_true rfl) rfl rfl ?_
  refine zj_aload_n 84 5 X kd_M_instruction_83 rfl rfl rfl ?_
  refine gf_M_64 87 X kd_M_instruction_84 rfl ?_
  refine zj_if_ne 116 90 X kd_M_instruction_87 rfl rfl (fun _ => ?_) (fun _ => ?_)
  · refine zj_iload 92 4 X kd_M_instruction_90 rfl rfl ?_
    refine zj_iload 94 3 X kd_M_instruction_92 rfl rfl ?_
    refine zj_iload 96 2 X kd_M_instruction_94 rfl rfl ?_
    refine zj_iload 98 1 X kd_M_instruction_96 rfl rfl ?_
    refine zj_iload 100 0 X kd_M_instruction_98 rfl rfl ?_
    refine mc_M_268 103 X kd_M_instruction_100 (Nat.le_of_ble_eq_true rfl) (Nat.le_of_ble_eq_true rfl) (Nat.le_of_ble_eq_true rfl) rfl (fun p19 => ?_)
    refine zj_if_ne 116 106 X kd_M_instruction_103 rfl rfl (fun _ => ?_) (fun _ => ?_)
    · refine zj_aload_n 107 5 X kd_M_instruction_106 rfl rfl rfl ?_
      refine zj_iconst 108 4 X kd_M_instruction_107 ki_4 rfl ?_
      refine zj_iload_n 109 7 X kd_M_instruction_108 rfl rfl rfl ?_
      refine zj_iconst 110 ((-1)) X kd_M_instruction_109 ki_m1 rfl ?_
      refine mc_M_272 113 X kd_M_instruction_110 (Nat.le_of_ble_eq_true rfl) (Nat.le_of_ble_eq_true rfl) (Nat.le_of_ble_eq_true rfl) rfl (fun s20 => ?_)
      refine zj_goto 215 X kd_M_instruction_113 rfl ?_
      refine zj_loc [5, 6] (L2 := [(0, .ref (P.1 0)), (1, .int l1)]) rfl ?_
      exact j_M_instruction_215 X s20 l1
    · refine zj_loc [5, 6, 7, 4, 3, 2, 1, 0] (L2 := [(0, .ref (P.1 0)), (1, .int l1), (2, .int l2), (4, .int v8), (5, .int v9), (6, .int v10), (7, .int v11), (8, .int v12)]) rfl ?_
      exact j_M_instruction_116 X p19.2 l1 l2 v8 v9 v10 v11 v12
  · refine zj_loc [5, 6, 7, 4, 3, 2, 1, 0] (L2 := [(0, .ref (P.1 0)), (1, .int l1), (2, .int l2), (4, .int v8), (5, .int v9), (6, .int v10), (7, .int v11), (8, .int v12)]) rfl ?_
    exact j_M_instruction_116 X s7 l1 l2 v8 v9 v10 v11 v12
theorem j_M_instruction {P : ZP} {E : ZE} {A : Nat → Prop} (X : ZX E (zmV P) A "FrameMachineModel" b_M_instruction 9 none 7 178) (s0 : ZS)  : ZJ E (zmV P) A 9 (zFv E (zmV P) A) 0 [(0, .ref (P.1 0))] [] s0 (f_M_instruction s0) := by
  unfold f_M_instruction
  refine zj_aload_n 1 0 X kd_M_instruction_0 rfl rfl rfl ?_
  refine gf_M_119 4 X kd_M_instruction_1 rfl ?_
  refine zj_nmi (fun v1 => ?_)
  refine zj_istore_n 5 [(1, .int v1), (0, .ref (P.1 0))] X kd_M_instruction_4 rfl (Nat.le_of_ble_eq_true rfl) rfl rfl ?_
  refine zj_aload_n 6 1 X kd_M_instruction_5 rfl rfl rfl ?_
  refine gf_M_103 9 X kd_M_instruction_6 rfl ?_
  refine zj_nmi (fun v2 => ?_)
  refine zj_istore_n 10 [(2, .int v2), (1, .int v1), (0, .ref (P.1 0))] X kd_M_instruction_9 rfl (Nat.le_of_ble_eq_true rfl) rfl rfl ?_
  refine zj_aload_n 11 2 X kd_M_instruction_10 rfl rfl rfl ?_
  refine zj_iconst 12 0 X kd_M_instruction_11 ki_0 rfl ?_
  refine pf_M_265 15 X kd_M_instruction_12 rfl ?_
  refine zj_nms (fun s3 => ?_)
  refine zj_aload_n 16 2 X kd_M_instruction_15 rfl rfl rfl ?_
  refine zj_iconst 17 0 X kd_M_instruction_16 ki_0 rfl ?_
  refine pf_M_174 20 X kd_M_instruction_17 rfl ?_
  refine zj_nms (fun s4 => ?_)
  refine zj_aload_n 21 2 X kd_M_instruction_20 rfl rfl rfl ?_
  refine zj_iconst 22 0 X kd_M_instruction_21 ki_0 rfl ?_
  refine pf_M_262 25 X kd_M_instruction_22 rfl ?_
  refine zj_nms (fun s5 => ?_)
  refine zj_aload_n 26 2 X kd_M_instruction_25 rfl rfl rfl ?_
  refine mc_M_110 29 X kd_M_instruction_26 (Nat.le_of_ble_eq_true rfl) (Nat.le_of_ble_eq_true rfl) (Nat.le_of_ble_eq_true rfl) rfl (fun p6 => ?_)
  refine zj_istore_n 30 [(3, .int p6.1), (2, .int v2), (1, .int v1), (0, .ref (P.1 0))] X kd_M_instruction_29 rfl (Nat.le_of_ble_eq_true rfl) rfl rfl ?_
  refine zj_aload_n 31 3 X kd_M_instruction_30 rfl rfl rfl ?_
  refine zj_aload_n 32 3 X kd_M_instruction_31 rfl rfl rfl ?_
  refine gf_M_64 35 X kd_M_instruction_32 rfl ?_
  refine zj_if_ne 42 38 X kd_M_instruction_35 rfl rfl (fun _ => ?_) (fun _ => ?_)
  · refine zj_iload_n 39 0 X kd_M_instruction_38 rfl rfl rfl ?_
    refine zj_goto 43 X kd_M_instruction_39 rfl ?_
    refine zj_loc [3, 2, 1, 0] (L2 := [(0, .ref (P.1 0)), (1, .int v1), (2, .int v2), (3, .int p6.1)]) rfl ?_
    exact j_M_instruction_43 X p6.2 v1 v2 p6.1 p6.1
  · refine zj_iconst 43 0 X kd_M_instruction_42 ki_0 rfl ?_
    refine zj_loc [3, 2, 1, 0] (L2 := [(0, .ref (P.1 0)), (1, .int v1), (2, .int v2), (3, .int p6.1)]) rfl ?_
    exact j_M_instruction_43 X p6.2 v1 v2 p6.1 0
theorem c_M_instruction {l : Launch} {P : ZP} (hV : ZVok (zmV P)) (s0 : ZS)  {z : ZS} (h : f_M_instruction s0  = some z) : zMv l y_M_instruction b_M_instruction 9 none 7 178 (zmV P) s0 [.ref (P.1 0)] z :=
  zMv_of (by decide +kernel) rfl rfl (Nat.le_of_ble_eq_true rfl) hV (fun _ X => j_M_instruction X s0 ) h
theorem kc_M_287 : zCV "FrameMachineModel" 287 y_M_instruction b_M_instruction 9 none 0 := ⟨⟨kw_946, kw_948, ksel_40, kw_11, kw_949⟩, by decide +kernel, by decide +kernel, by decide +kernel⟩
theorem mc_M_287 {ρ : Type} {E : ZE} {P : ZP} {A : Nat → Prop} {cc : ByteArray} {nL : Nat} {ret : Option FieldType} {fr lo : Nat} {F : ρ → State → Prop} {pc : Nat} {L : List (Nat × Value)} {rest : List Value} {σ : ZS}  {K : ZS → Option ρ} (q : Nat) (X : ZX E (zmV P) A "FrameMachineModel" cc nL ret fr lo) (d : decode cc pc = .ok (.invokevirtual 287, 3)) (hfr : 7 + 1 ≤ fr) (hlo : 8 + (9 + 11) + 178 ≤ lo) (hr : (rest.map fun v => v.category).sum ≤ 8) (hq : pc + 3 = q) (kk : ∀ p : ZS, ZJ E (zmV P) A nL F q L (rest) p (K p)) : ZJ E (zmV P) A nL F pc L (.ref (P.1 0) :: rest) σ ((f_M_instruction σ ).bind K) :=
  zj_cVv q 0 0 (As := []) (rest := rest) X kc_M_287 hfr hlo (fun p h => c_M_instruction (zx_v X) σ  h) rfl rfl rfl hr d hq kk
-- FrameMachineModel.step()Z
theorem kd_M_step_0 : decode b_M_step 0 = .ok (.aload_n 0, 1) := by decide +kernel
theorem kd_M_step_1 : decode b_M_step 1 = .ok (.dup, 1) := by decide +kernel
theorem kd_M_step_2 : decode b_M_step 2 = .ok (.getfield 281, 3) := by decide +kernel
theorem kd_M_step_5 : decode b_M_step 5 = .ok (.iconst 1, 1) := by decide +kernel
theorem kd_M_step_6 : decode b_M_step 6 = .ok (.iadd, 1) := by decide +kernel
theorem kd_M_step_7 : decode b_M_step 7 = .ok (.putfield 281, 3) := by decide +kernel
theorem kd_M_step_10 : decode b_M_step 10 = .ok (.aload_n 0, 1) := by decide +kernel
theorem kd_M_step_11 : decode b_M_step 11 = .ok (.getfield 229, 3) := by decide +kernel
theorem kd_M_step_14 : decode b_M_step 14 = .ok (.iconst 2, 1) := by decide +kernel
theorem kd_M_step_15 : decode b_M_step 15 = .ok (.if_icmp .ne 5, 3) := by decide +kernel
theorem kd_M_step_18 : decode b_M_step 18 = .ok (.iconst 0, 1) := by decide +kernel
theorem kd_M_step_19 : decode b_M_step 19 = .ok (.ireturn, 1) := by decide +kernel
theorem kd_M_step_20 : decode b_M_step 20 = .ok (.aload_n 0, 1) := by decide +kernel
theorem kd_M_step_21 : decode b_M_step 21 = .ok (.invokevirtual 284, 3) := by decide +kernel
theorem kd_M_step_24 : decode b_M_step 24 = .ok (.aload_n 0, 1) := by decide +kernel
theorem kd_M_step_25 : decode b_M_step 25 = .ok (.getfield 29, 3) := by decide +kernel
theorem kd_M_step_28 : decode b_M_step 28 = .ok (.iconst (-1), 1) := by decide +kernel
theorem kd_M_step_29 : decode b_M_step 29 = .ok (.if_icmp .eq 15, 3) := by decide +kernel
theorem kd_M_step_32 : decode b_M_step 32 = .ok (.aload_n 0, 1) := by decide +kernel
theorem kd_M_step_33 : decode b_M_step 33 = .ok (.getfield 23, 3) := by decide +kernel
theorem kd_M_step_36 : decode b_M_step 36 = .ok (.iconst 4, 1) := by decide +kernel
theorem kd_M_step_37 : decode b_M_step 37 = .ok (.if_icmp .ge 7, 3) := by decide +kernel
theorem kd_M_step_40 : decode b_M_step 40 = .ok (.iconst 4, 1) := by decide +kernel
theorem kd_M_step_41 : decode b_M_step 41 = .ok (.goto 23, 3) := by decide +kernel
theorem kd_M_step_44 : decode b_M_step 44 = .ok (.aload_n 0, 1) := by decide +kernel
theorem kd_M_step_45 : decode b_M_step 45 = .ok (.getfield 49, 3) := by decide +kernel
theorem kd_M_step_48 : decode b_M_step 48 = .ok (.ifCond .eq 15, 3) := by decide +kernel
theorem kd_M_step_51 : decode b_M_step 51 = .ok (.aload_n 0, 1) := by decide +kernel
theorem kd_M_step_52 : decode b_M_step 52 = .ok (.getfield 23, 3) := by decide +kernel
theorem kd_M_step_55 : decode b_M_step 55 = .ok (.iconst 2, 1) := by decide +kernel
theorem kd_M_step_56 : decode b_M_step 56 = .ok (.if_icmp .ge 7, 3) := by decide +kernel
theorem kd_M_step_59 : decode b_M_step 59 = .ok (.iconst 2, 1) := by decide +kernel
theorem kd_M_step_60 : decode b_M_step 60 = .ok (.goto 4, 3) := by decide +kernel
theorem kd_M_step_63 : decode b_M_step 63 = .ok (.iconst 0, 1) := by decide +kernel
theorem kd_M_step_64 : decode b_M_step 64 = .ok (.istore_n 1, 1) := by decide +kernel
theorem kd_M_step_65 : decode b_M_step 65 = .ok (.iload_n 1, 1) := by decide +kernel
theorem kd_M_step_66 : decode b_M_step 66 = .ok (.ifCond .le 28, 3) := by decide +kernel
theorem kd_M_step_69 : decode b_M_step 69 = .ok (.aload_n 0, 1) := by decide +kernel
theorem kd_M_step_70 : decode b_M_step 70 = .ok (.iconst 0, 1) := by decide +kernel
theorem kd_M_step_71 : decode b_M_step 71 = .ok (.putfield 229, 3) := by decide +kernel
theorem kd_M_step_74 : decode b_M_step 74 = .ok (.aload_n 0, 1) := by decide +kernel
theorem kd_M_step_75 : decode b_M_step 75 = .ok (.iconst 0, 1) := by decide +kernel
theorem kd_M_step_76 : decode b_M_step 76 = .ok (.putfield 265, 3) := by decide +kernel
theorem kd_M_step_79 : decode b_M_step 79 = .ok (.aload_n 0, 1) := by decide +kernel
theorem kd_M_step_80 : decode b_M_step 80 = .ok (.bipush 24, 2) := by decide +kernel
theorem kd_M_step_82 : decode b_M_step 82 = .ok (.iload_n 1, 1) := by decide +kernel
theorem kd_M_step_83 : decode b_M_step 83 = .ok (.iadd, 1) := by decide +kernel
theorem kd_M_step_84 : decode b_M_step 84 = .ok (.aload_n 0, 1) := by decide +kernel
theorem kd_M_step_85 : decode b_M_step 85 = .ok (.getfield 103, 3) := by decide +kernel
theorem kd_M_step_88 : decode b_M_step 88 = .ok (.iload_n 1, 1) := by decide +kernel
theorem kd_M_step_89 : decode b_M_step 89 = .ok (.invokevirtual 272, 3) := by decide +kernel
theorem kd_M_step_92 : decode b_M_step 92 = .ok (.iconst 1, 1) := by decide +kernel
theorem kd_M_step_93 : decode b_M_step 93 = .ok (.ireturn, 1) := by decide +kernel
theorem kd_M_step_94 : decode b_M_step 94 = .ok (.aload_n 0, 1) := by decide +kernel
theorem kd_M_step_95 : decode b_M_step 95 = .ok (.getfield 229, 3) := by decide +kernel
theorem kd_M_step_98 : decode b_M_step 98 = .ok (.iconst 1, 1) := by decide +kernel
theorem kd_M_step_99 : decode b_M_step 99 = .ok (.if_icmp .ne 5, 3) := by decide +kernel
theorem kd_M_step_102 : decode b_M_step 102 = .ok (.iconst 0, 1) := by decide +kernel
theorem kd_M_step_103 : decode b_M_step 103 = .ok (.ireturn, 1) := by decide +kernel
theorem kd_M_step_104 : decode b_M_step 104 = .ok (.aload_n 0, 1) := by decide +kernel
theorem kd_M_step_105 : decode b_M_step 105 = .ok (.invokevirtual 287, 3) := by decide +kernel
theorem kd_M_step_108 : decode b_M_step 108 = .ok (.iconst 1, 1) := by decide +kernel
theorem kd_M_step_109 : decode b_M_step 109 = .ok (.ireturn, 1) := by decide +kernel
noncomputable def f_M_step_64 (s0 : ZS) (t0 : Int32) : Option (Int32 × ZS) :=
  if t0 ≤ 0 then
    if (s0 0 11) = 1 then
      some (0, s0)
    else
      (f_M_instruction s0 ).bind fun s3 =>
      some (1, s3)
  else
    zs_nm (zs_up s0 0 11 0) fun s4 =>
    zs_nm (zs_up s4 0 18 0) fun s5 =>
    (f_M_exception s5 (24 + t0) (s5 0 2) t0).bind fun s6 =>
    some (1, s6)
noncomputable def f_M_step_63 (s0 : ZS)  : Option (Int32 × ZS) :=
  f_M_step_64 s0 0
noncomputable def f_M_step_44 (s0 : ZS)  : Option (Int32 × ZS) :=
  if (s0 0 25) = 0 then
    f_M_step_63 s0
  else
    if 2 ≤ (s0 0 5) then
      f_M_step_63 s0
    else
      f_M_step_64 s0 2
noncomputable def f_M_step (s0 : ZS)  : Option (Int32 × ZS) :=
  zs_nm (zs_up s0 0 12 ((s0 0 12) + 1)) fun s1 =>
  if (s1 0 11) = 2 then
    some (0, s1)
  else
    (f_M_devices s1 ).bind fun s2 =>
    if (s2 0 26) = ((-1)) then
      f_M_step_44 s2
    else
      if 4 ≤ (s2 0 5) then
        f_M_step_44 s2
      else
        f_M_step_64 s2 4
theorem j_M_step_64 {P : ZP} {E : ZE} {A : Nat → Prop} (X : ZX E (zmV P) A "FrameMachineModel" b_M_step 2 (some .boolean) 8 206) (s0 : ZS) (t0 : Int32) : ZJ E (zmV P) A 2 (zFi E (zmV P) A) 64 [(0, .ref (P.1 0))] [.int t0] s0 (f_M_step_64 s0 t0) := by
  unfold f_M_step_64
  refine zj_istore_n 65 [(1, .int t0), (0, .ref (P.1 0))] X kd_M_step_64 rfl (Nat.le_of_ble_eq_true rfl) rfl rfl ?_
  refine zj_iload_n 66 0 X kd_M_step_65 rfl rfl rfl ?_
  refine zj_if_le 94 69 X kd_M_step_66 rfl rfl (fun _ => ?_) (fun _ => ?_)
  · refine zj_aload_n 95 1 X kd_M_step_94 rfl rfl rfl ?_
    refine gf_M_229 98 X kd_M_step_95 rfl ?_
    refine zj_iconst 99 1 X kd_M_step_98 ki_1 rfl ?_
    refine zj_icmp_ne 104 102 X kd_M_step_99 rfl rfl (fun _ => ?_) (fun _ => ?_)
    · refine zj_iconst 103 0 X kd_M_step_102 ki_0 rfl ?_
      exact zj_zret X kd_M_step_103 (Or.inl rfl)
    · refine zj_aload_n 105 1 X kd_M_step_104 rfl rfl rfl ?_
      refine mc_M_287 108 X kd_M_step_105 (Nat.le_of_ble_eq_true rfl) (Nat.le_of_ble_eq_true rfl) (Nat.le_of_ble_eq_true rfl) rfl (fun s3 => ?_)
      refine zj_iconst 109 1 X kd_M_step_108 ki_1 rfl ?_
      exact zj_zret X kd_M_step_109 (Or.inr rfl)
  · refine zj_aload_n 70 1 X kd_M_step_69 rfl rfl rfl ?_
    refine zj_iconst 71 0 X kd_M_step_70 ki_0 rfl ?_
    refine pf_M_229 74 X kd_M_step_71 rfl ?_
    refine zj_nms (fun s4 => ?_)
    refine zj_aload_n 75 1 X kd_M_step_74 rfl rfl rfl ?_
    refine zj_iconst 76 0 X kd_M_step_75 ki_0 rfl ?_
    refine pf_M_265 79 X kd_M_step_76 rfl ?_
    refine zj_nms (fun s5 => ?_)
    refine zj_aload_n 80 1 X kd_M_step_79 rfl rfl rfl ?_
    refine zj_bipush 82 24 X kd_M_step_80 kb_24 rfl ?_
    refine zj_iload_n 83 0 X kd_M_step_82 rfl rfl rfl ?_
    refine zj_iadd 84 X kd_M_step_83 rfl ?_
    refine zj_aload_n 85 1 X kd_M_step_84 rfl rfl rfl ?_
    refine gf_M_103 88 X kd_M_step_85 rfl ?_
    refine zj_iload_n 89 0 X kd_M_step_88 rfl rfl rfl ?_
    refine mc_M_272 92 X kd_M_step_89 (Nat.le_of_ble_eq_true rfl) (Nat.le_of_ble_eq_true rfl) (Nat.le_of_ble_eq_true rfl) rfl (fun s6 => ?_)
    refine zj_iconst 93 1 X kd_M_step_92 ki_1 rfl ?_
    exact zj_zret X kd_M_step_93 (Or.inr rfl)
theorem j_M_step_63 {P : ZP} {E : ZE} {A : Nat → Prop} (X : ZX E (zmV P) A "FrameMachineModel" b_M_step 2 (some .boolean) 8 206) (s0 : ZS)  : ZJ E (zmV P) A 2 (zFi E (zmV P) A) 63 [(0, .ref (P.1 0))] [] s0 (f_M_step_63 s0) := by
  unfold f_M_step_63
  refine zj_iconst 64 0 X kd_M_step_63 ki_0 rfl ?_
  exact j_M_step_64 X s0 0
theorem j_M_step_44 {P : ZP} {E : ZE} {A : Nat → Prop} (X : ZX E (zmV P) A "FrameMachineModel" b_M_step 2 (some .boolean) 8 206) (s0 : ZS)  : ZJ E (zmV P) A 2 (zFi E (zmV P) A) 44 [(0, .ref (P.1 0))] [] s0 (f_M_step_44 s0) := by
  unfold f_M_step_44
  refine zj_aload_n 45 0 X kd_M_step_44 rfl rfl rfl ?_
  refine gf_M_49 48 X kd_M_step_45 rfl ?_
  refine zj_if_eq 63 51 X kd_M_step_48 rfl rfl (fun _ => ?_) (fun _ => ?_)
  · exact j_M_step_63 X s0
  · refine zj_aload_n 52 0 X kd_M_step_51 rfl rfl rfl ?_
    refine gf_M_23 55 X kd_M_step_52 rfl ?_
    refine zj_iconst 56 2 X kd_M_step_55 ki_2 rfl ?_
    refine zj_icmp_ge 63 59 X kd_M_step_56 rfl rfl (fun _ => ?_) (fun _ => ?_)
    · exact j_M_step_63 X s0
    · refine zj_iconst 60 2 X kd_M_step_59 ki_2 rfl ?_
      refine zj_goto 64 X kd_M_step_60 rfl ?_
      exact j_M_step_64 X s0 2
theorem j_M_step {P : ZP} {E : ZE} {A : Nat → Prop} (X : ZX E (zmV P) A "FrameMachineModel" b_M_step 2 (some .boolean) 8 206) (s0 : ZS)  : ZJ E (zmV P) A 2 (zFi E (zmV P) A) 0 [(0, .ref (P.1 0))] [] s0 (f_M_step s0) := by
  unfold f_M_step
  refine zj_aload_n 1 0 X kd_M_step_0 rfl rfl rfl ?_
  refine zj_dup 2 X kd_M_step_1 rfl rfl ?_
  refine gf_M_281 5 X kd_M_step_2 rfl ?_
  refine zj_iconst 6 1 X kd_M_step_5 ki_1 rfl ?_
  refine zj_iadd 7 X kd_M_step_6 rfl ?_
  refine pf_M_281 10 X kd_M_step_7 rfl ?_
  refine zj_nms (fun s1 => ?_)
  refine zj_aload_n 11 0 X kd_M_step_10 rfl rfl rfl ?_
  refine gf_M_229 14 X kd_M_step_11 rfl ?_
  refine zj_iconst 15 2 X kd_M_step_14 ki_2 rfl ?_
  refine zj_icmp_ne 20 18 X kd_M_step_15 rfl rfl (fun _ => ?_) (fun _ => ?_)
  · refine zj_iconst 19 0 X kd_M_step_18 ki_0 rfl ?_
    exact zj_zret X kd_M_step_19 (Or.inl rfl)
  · refine zj_aload_n 21 0 X kd_M_step_20 rfl rfl rfl ?_
    refine mc_M_284 24 X kd_M_step_21 (Nat.le_of_ble_eq_true rfl) (Nat.le_of_ble_eq_true rfl) (Nat.le_of_ble_eq_true rfl) rfl (fun s2 => ?_)
    refine zj_aload_n 25 0 X kd_M_step_24 rfl rfl rfl ?_
    refine gf_M_29 28 X kd_M_step_25 rfl ?_
    refine zj_iconst 29 ((-1)) X kd_M_step_28 ki_m1 rfl ?_
    refine zj_icmp_eq 44 32 X kd_M_step_29 rfl rfl (fun _ => ?_) (fun _ => ?_)
    · exact j_M_step_44 X s2
    · refine zj_aload_n 33 0 X kd_M_step_32 rfl rfl rfl ?_
      refine gf_M_23 36 X kd_M_step_33 rfl ?_
      refine zj_iconst 37 4 X kd_M_step_36 ki_4 rfl ?_
      refine zj_icmp_ge 44 40 X kd_M_step_37 rfl rfl (fun _ => ?_) (fun _ => ?_)
      · exact j_M_step_44 X s2
      · refine zj_iconst 41 4 X kd_M_step_40 ki_4 rfl ?_
        refine zj_goto 64 X kd_M_step_41 rfl ?_
        exact j_M_step_64 X s2 4
theorem c_M_step {l : Launch} {P : ZP} (hV : ZVok (zmV P)) (s0 : ZS)  {z : Int32 × ZS} (h : f_M_step s0  = some z) : zMi l y_M_step b_M_step 2 (some .boolean) 8 206 (zmV P) s0 [.ref (P.1 0)] z :=
  zMi_of (by decide +kernel) rfl rfl (Nat.le_of_ble_eq_true rfl) hV (fun _ X => j_M_step X s0 ) h
theorem kc_M_290 : zCV "FrameMachineModel" 290 y_M_step b_M_step 2 (some .boolean) 0 := ⟨⟨kw_890, kw_892, ksel_29, kw_11, kw_893⟩, by decide +kernel, by decide +kernel, by decide +kernel⟩
theorem mc_M_290 {ρ : Type} {E : ZE} {P : ZP} {A : Nat → Prop} {cc : ByteArray} {nL : Nat} {ret : Option FieldType} {fr lo : Nat} {F : ρ → State → Prop} {pc : Nat} {L : List (Nat × Value)} {rest : List Value} {σ : ZS}  {K : Int32 × ZS → Option ρ} (q : Nat) (X : ZX E (zmV P) A "FrameMachineModel" cc nL ret fr lo) (d : decode cc pc = .ok (.invokevirtual 290, 3)) (hfr : 8 + 1 ≤ fr) (hlo : 8 + (2 + 11) + 206 ≤ lo) (hr : (rest.map fun v => v.category).sum ≤ 8) (hq : pc + 3 = q) (kk : ∀ p : Int32 × ZS, ZJ E (zmV P) A nL F q L (.int p.1 :: rest) p.2 (K p)) : ZJ E (zmV P) A nL F pc L (.ref (P.1 0) :: rest) σ ((f_M_step σ ).bind K) :=
  zj_cVi q 0 0 (As := []) (rest := rest) X kc_M_290 hfr hlo (fun p h => c_M_step (zx_v X) σ  h) rfl rfl rfl hr d hq kk
-- FrameMachineModel.run(I)I
theorem kd_M_run_0 : decode b_M_run 0 = .ok (.aload_n 0, 1) := by decide +kernel
theorem kd_M_run_1 : decode b_M_run 1 = .ok (.iload_n 1, 1) := by decide +kernel
theorem kd_M_run_2 : decode b_M_run 2 = .ok (.iconst 1, 1) := by decide +kernel
theorem kd_M_run_3 : decode b_M_run 3 = .ok (.if_icmp .lt 9, 3) := by decide +kernel
theorem kd_M_run_6 : decode b_M_run 6 = .ok (.iload_n 1, 1) := by decide +kernel
theorem kd_M_run_7 : decode b_M_run 7 = .ok (.bipush 8, 2) := by decide +kernel
theorem kd_M_run_9 : decode b_M_run 9 = .ok (.if_icmp .le 7, 3) := by decide +kernel
theorem kd_M_run_12 : decode b_M_run 12 = .ok (.iconst 1, 1) := by decide +kernel
theorem kd_M_run_13 : decode b_M_run 13 = .ok (.goto 4, 3) := by decide +kernel
theorem kd_M_run_16 : decode b_M_run 16 = .ok (.iconst 0, 1) := by decide +kernel
theorem kd_M_run_17 : decode b_M_run 17 = .ok (.putfield 38, 3) := by decide +kernel
theorem kd_M_run_20 : decode b_M_run 20 = .ok (.iconst 0, 1) := by decide +kernel
theorem kd_M_run_21 : decode b_M_run 21 = .ok (.istore_n 2, 1) := by decide +kernel
theorem kd_M_run_22 : decode b_M_run 22 = .ok (.iconst 0, 1) := by decide +kernel
theorem kd_M_run_23 : decode b_M_run 23 = .ok (.istore_n 3, 1) := by decide +kernel
theorem kd_M_run_24 : decode b_M_run 24 = .ok (.iload_n 3, 1) := by decide +kernel
theorem kd_M_run_25 : decode b_M_run 25 = .ok (.iload_n 1, 1) := by decide +kernel
theorem kd_M_run_26 : decode b_M_run 26 = .ok (.if_icmp .ge 35, 3) := by decide +kernel
theorem kd_M_run_29 : decode b_M_run 29 = .ok (.aload_n 0, 1) := by decide +kernel
theorem kd_M_run_30 : decode b_M_run 30 = .ok (.getfield 38, 3) := by decide +kernel
theorem kd_M_run_33 : decode b_M_run 33 = .ok (.ifCond .ne 28, 3) := by decide +kernel
theorem kd_M_run_36 : decode b_M_run 36 = .ok (.aload_n 0, 1) := by decide +kernel
theorem kd_M_run_37 : decode b_M_run 37 = .ok (.invokevirtual 290, 3) := by decide +kernel
theorem kd_M_run_40 : decode b_M_run 40 = .ok (.istore 4, 2) := by decide +kernel
theorem kd_M_run_42 : decode b_M_run 42 = .ok (.iload_n 2, 1) := by decide +kernel
theorem kd_M_run_43 : decode b_M_run 43 = .ok (.iload 4, 2) := by decide +kernel
theorem kd_M_run_45 : decode b_M_run 45 = .ok (.ifCond .eq 7, 3) := by decide +kernel
theorem kd_M_run_48 : decode b_M_run 48 = .ok (.iconst 1, 1) := by decide +kernel
theorem kd_M_run_49 : decode b_M_run 49 = .ok (.goto 4, 3) := by decide +kernel
theorem kd_M_run_52 : decode b_M_run 52 = .ok (.iconst 0, 1) := by decide +kernel
theorem kd_M_run_53 : decode b_M_run 53 = .ok (.iadd, 1) := by decide +kernel
theorem kd_M_run_54 : decode b_M_run 54 = .ok (.istore_n 2, 1) := by decide +kernel
theorem kd_M_run_55 : decode b_M_run 55 = .ok (.iinc 3 1, 3) := by decide +kernel
theorem kd_M_run_58 : decode b_M_run 58 = .ok (.goto (-34), 3) := by decide +kernel
theorem kd_M_run_61 : decode b_M_run 61 = .ok (.iload_n 2, 1) := by decide +kernel
theorem kd_M_run_62 : decode b_M_run 62 = .ok (.ireturn, 1) := by decide +kernel
noncomputable def f_M_run_53 (K : ZS → Int32 → Int32 → Int32 → Option (Int32 × ZS)) (s0 : ZS) (l1 : Int32) (l3 : Int32) (t0 : Int32) (t1 : Int32) : Option (Int32 × ZS) :=
  zs_nm (t1 + t0) fun v3 =>
  zs_nm (l3 + 1) fun v4 =>
  K s0 l1 v3 v4
noncomputable def f_M_run_24 : Nat → ZS → Int32 → Int32 → Int32 → Option (Int32 × ZS)
  | 0, _, _, _, _ => none
  | n+1, s0, l1, l2, l3 =>
    if l1 ≤ l3 then
      some (l2, s0)
    else
      if (s0 0 0) = 0 then
        (f_M_step s0 ).bind fun p2 =>
        if p2.1 = 0 then
          f_M_run_53 (f_M_run_24 n) p2.2 l1 l3 0 l2
        else
          f_M_run_53 (f_M_run_24 n) p2.2 l1 l3 1 l2
      else
        some (l2, s0)
noncomputable def f_M_run_17 (s0 : ZS) (l1 : Int32) (t0 : Int32) : Option (Int32 × ZS) :=
  zs_nm (zs_up s0 0 0 t0) fun s1 =>
  f_M_run_24 20 s1 l1 0 0
noncomputable def f_M_run_12 (s0 : ZS) (l1 : Int32) : Option (Int32 × ZS) :=
  f_M_run_17 s0 l1 1
noncomputable def f_M_run (s0 : ZS) (x1 : Int32) : Option (Int32 × ZS) :=
  if x1 < 1 then
    f_M_run_12 s0 x1
  else
    if x1 ≤ 8 then
      f_M_run_17 s0 x1 0
    else
      f_M_run_12 s0 x1
theorem j_M_run_53 {P : ZP} {E : ZE} {A : Nat → Prop} (X : ZX E (zmV P) A "FrameMachineModel" b_M_run 5 (some .int) 9 227) (K : ZS → Int32 → Int32 → Int32 → Option (Int32 × ZS)) (hK : ∀ (s0 : ZS) (l1 : Int32) (l2 : Int32) (l3 : Int32), ZJ E (zmV P) A 5 (zFi E (zmV P) A) 24 [(0, .ref (P.1 0)), (1, .int l1), (2, .int l2), (3, .int l3)] [] s0 (K s0 l1 l2 l3)) (s0 : ZS) (l1 : Int32) (l3 : Int32) (t0 : Int32) (t1 : Int32) : ZJ E (zmV P) A 5 (zFi E (zmV P) A) 53 [(0, .ref (P.1 0)), (1, .int l1), (3, .int l3)] [.int t0, .int t1] s0 (f_M_run_53 K s0 l1 l3 t0 t1) := by
  unfold f_M_run_53
  refine zj_iadd 54 X kd_M_run_53 rfl ?_
  refine zj_nmi (fun v3 => ?_)
  refine zj_istore_n 55 [(2, .int v3), (0, .ref (P.1 0)), (1, .int l1), (3, .int l3)] X kd_M_run_54 rfl (Nat.le_of_ble_eq_true rfl) rfl rfl ?_
  refine zj_iinc 58 3 1 (fun v4 => [(3, .int v4), (2, .int v3), (0, .ref (P.1 0)), (1, .int l1)]) X kd_M_run_55 ki_1 rfl (Nat.le_of_ble_eq_true rfl) (fun _ => rfl) rfl (fun v4 => ?_)
  refine zj_goto 24 X kd_M_run_58 rfl ?_
  refine zj_loc [2, 3, 1, 0] (L2 := [(0, .ref (P.1 0)), (1, .int l1), (2, .int v3), (3, .int v4)]) rfl ?_
  exact hK s0 l1 v3 v4
theorem j_M_run_24 {P : ZP} {E : ZE} {A : Nat → Prop} (X : ZX E (zmV P) A "FrameMachineModel" b_M_run 5 (some .int) 9 227) : ∀ (n : Nat) (s0 : ZS) (l1 : Int32) (l2 : Int32) (l3 : Int32), ZJ E (zmV P) A 5 (zFi E (zmV P) A) 24 [(0, .ref (P.1 0)), (1, .int l1), (2, .int l2), (3, .int l3)] [] s0 (f_M_run_24 n s0 l1 l2 l3) := by
  intro n
  induction n with
  | zero => intro s0 l1 l2 l3; rw [f_M_run_24]; exact zj_none
  | succ n hK =>
    intro s0 l1 l2 l3
    rw [f_M_run_24]
    refine zj_iload_n 25 3 X kd_M_run_24 rfl rfl rfl ?_
    refine zj_iload_n 26 1 X kd_M_run_25 rfl rfl rfl ?_
    refine zj_icmp_ge 61 29 X kd_M_run_26 rfl rfl (fun _ => ?_) (fun _ => ?_)
    · refine zj_iload_n 62 2 X kd_M_run_61 rfl rfl rfl ?_
      exact zj_iret X kd_M_run_62
    · refine zj_aload_n 30 0 X kd_M_run_29 rfl rfl rfl ?_
      refine gf_M_38 33 X kd_M_run_30 rfl ?_
      refine zj_if_ne 61 36 X kd_M_run_33 rfl rfl (fun _ => ?_) (fun _ => ?_)
      · refine zj_aload_n 37 0 X kd_M_run_36 rfl rfl rfl ?_
        refine mc_M_290 40 X kd_M_run_37 (Nat.le_of_ble_eq_true rfl) (Nat.le_of_ble_eq_true rfl) (Nat.le_of_ble_eq_true rfl) rfl (fun p2 => ?_)
        refine zj_istore 42 [(4, .int p2.1), (0, .ref (P.1 0)), (1, .int l1), (2, .int l2), (3, .int l3)] X kd_M_run_40 (Nat.le_of_ble_eq_true rfl) rfl rfl ?_
        refine zj_iload_n 43 3 X kd_M_run_42 rfl rfl rfl ?_
        refine zj_iload 45 0 X kd_M_run_43 rfl rfl ?_
        refine zj_if_eq 52 48 X kd_M_run_45 rfl rfl (fun _ => ?_) (fun _ => ?_)
        · refine zj_iconst 53 0 X kd_M_run_52 ki_0 rfl ?_
          refine zj_loc [1, 2, 4] (L2 := [(0, .ref (P.1 0)), (1, .int l1), (3, .int l3)]) rfl ?_
          exact j_M_run_53 X (f_M_run_24 n) hK p2.2 l1 l3 0 l2
        · refine zj_iconst 49 1 X kd_M_run_48 ki_1 rfl ?_
          refine zj_goto 53 X kd_M_run_49 rfl ?_
          refine zj_loc [1, 2, 4] (L2 := [(0, .ref (P.1 0)), (1, .int l1), (3, .int l3)]) rfl ?_
          exact j_M_run_53 X (f_M_run_24 n) hK p2.2 l1 l3 1 l2
      · refine zj_iload_n 62 2 X kd_M_run_61 rfl rfl rfl ?_
        exact zj_iret X kd_M_run_62
theorem j_M_run_17 {P : ZP} {E : ZE} {A : Nat → Prop} (X : ZX E (zmV P) A "FrameMachineModel" b_M_run 5 (some .int) 9 227) (s0 : ZS) (l1 : Int32) (t0 : Int32) : ZJ E (zmV P) A 5 (zFi E (zmV P) A) 17 [(0, .ref (P.1 0)), (1, .int l1)] [.int t0, .ref (P.1 0)] s0 (f_M_run_17 s0 l1 t0) := by
  unfold f_M_run_17
  refine pf_M_38 20 X kd_M_run_17 rfl ?_
  refine zj_nms (fun s1 => ?_)
  refine zj_iconst 21 0 X kd_M_run_20 ki_0 rfl ?_
  refine zj_istore_n 22 [(2, .int 0), (0, .ref (P.1 0)), (1, .int l1)] X kd_M_run_21 rfl (Nat.le_of_ble_eq_true rfl) rfl rfl ?_
  refine zj_iconst 23 0 X kd_M_run_22 ki_0 rfl ?_
  refine zj_istore_n 24 [(3, .int 0), (2, .int 0), (0, .ref (P.1 0)), (1, .int l1)] X kd_M_run_23 rfl (Nat.le_of_ble_eq_true rfl) rfl rfl ?_
  refine zj_loc [2, 3, 1, 0] (L2 := [(0, .ref (P.1 0)), (1, .int l1), (2, .int 0), (3, .int 0)]) rfl ?_
  exact j_M_run_24 X 20 s1 l1 0 0
theorem j_M_run_12 {P : ZP} {E : ZE} {A : Nat → Prop} (X : ZX E (zmV P) A "FrameMachineModel" b_M_run 5 (some .int) 9 227) (s0 : ZS) (l1 : Int32) : ZJ E (zmV P) A 5 (zFi E (zmV P) A) 12 [(0, .ref (P.1 0)), (1, .int l1)] [.ref (P.1 0)] s0 (f_M_run_12 s0 l1) := by
  unfold f_M_run_12
  refine zj_iconst 13 1 X kd_M_run_12 ki_1 rfl ?_
  refine zj_goto 17 X kd_M_run_13 rfl ?_
  exact j_M_run_17 X s0 l1 1
theorem j_M_run {P : ZP} {E : ZE} {A : Nat → Prop} (X : ZX E (zmV P) A "FrameMachineModel" b_M_run 5 (some .int) 9 227) (s0 : ZS) (x1 : Int32) : ZJ E (zmV P) A 5 (zFi E (zmV P) A) 0 [(0, .ref (P.1 0)), (1, .int x1)] [] s0 (f_M_run s0 x1) := by
  unfold f_M_run
  refine zj_aload_n 1 0 X kd_M_run_0 rfl rfl rfl ?_
  refine zj_iload_n 2 1 X kd_M_run_1 rfl rfl rfl ?_
  refine zj_iconst 3 1 X kd_M_run_2 ki_1 rfl ?_
  refine zj_icmp_lt 12 6 X kd_M_run_3 rfl rfl (fun _ => ?_) (fun _ => ?_)
  · exact j_M_run_12 X s0 x1
  · refine zj_iload_n 7 1 X kd_M_run_6 rfl rfl rfl ?_
    refine zj_bipush 9 8 X kd_M_run_7 kb_8 rfl ?_
    refine zj_icmp_le 16 12 X kd_M_run_9 rfl rfl (fun _ => ?_) (fun _ => ?_)
    · refine zj_iconst 17 0 X kd_M_run_16 ki_0 rfl ?_
      exact j_M_run_17 X s0 x1 0
    · exact j_M_run_12 X s0 x1
theorem c_M_run {l : Launch} {P : ZP} (hV : ZVok (zmV P)) (s0 : ZS) (x1 : Int32) {z : Int32 × ZS} (h : f_M_run s0 x1 = some z) : zMi l y_M_run b_M_run 5 (some .int) 9 227 (zmV P) s0 [.ref (P.1 0), .int x1] z :=
  zMi_of (by decide +kernel) rfl rfl (Nat.le_of_ble_eq_true rfl) hV (fun _ X => j_M_run X s0 x1) h
-- FrameMachineModel.comes(I)Z
theorem kd_M_comes_0 : decode b_M_comes 0 = .ok (.aload_n 0, 1) := by decide +kernel
theorem kd_M_comes_1 : decode b_M_comes 1 = .ok (.iload_n 1, 1) := by decide +kernel
theorem kd_M_comes_2 : decode b_M_comes 2 = .ok (.ifCond .lt 10, 3) := by decide +kernel
theorem kd_M_comes_5 : decode b_M_comes 5 = .ok (.iload_n 1, 1) := by decide +kernel
theorem kd_M_comes_6 : decode b_M_comes 6 = .ok (.sipush 255, 3) := by decide +kernel
theorem kd_M_comes_9 : decode b_M_comes 9 = .ok (.if_icmp .le 7, 3) := by decide +kernel
theorem kd_M_comes_12 : decode b_M_comes 12 = .ok (.iconst 1, 1) := by decide +kernel
theorem kd_M_comes_13 : decode b_M_comes 13 = .ok (.goto 4, 3) := by decide +kernel
theorem kd_M_comes_16 : decode b_M_comes 16 = .ok (.iconst 0, 1) := by decide +kernel
theorem kd_M_comes_17 : decode b_M_comes 17 = .ok (.putfield 38, 3) := by decide +kernel
theorem kd_M_comes_20 : decode b_M_comes 20 = .ok (.aload_n 0, 1) := by decide +kernel
theorem kd_M_comes_21 : decode b_M_comes 21 = .ok (.getfield 38, 3) := by decide +kernel
theorem kd_M_comes_24 : decode b_M_comes 24 = .ok (.ifCond .le 5, 3) := by decide +kernel
theorem kd_M_comes_27 : decode b_M_comes 27 = .ok (.iconst 0, 1) := by decide +kernel
theorem kd_M_comes_28 : decode b_M_comes 28 = .ok (.ireturn, 1) := by decide +kernel
theorem kd_M_comes_29 : decode b_M_comes 29 = .ok (.aload_n 0, 1) := by decide +kernel
theorem kd_M_comes_30 : decode b_M_comes 30 = .ok (.getfield 29, 3) := by decide +kernel
theorem kd_M_comes_33 : decode b_M_comes 33 = .ok (.iconst (-1), 1) := by decide +kernel
theorem kd_M_comes_34 : decode b_M_comes 34 = .ok (.if_icmp .ne 7, 3) := by decide +kernel
theorem kd_M_comes_37 : decode b_M_comes 37 = .ok (.iconst 1, 1) := by decide +kernel
theorem kd_M_comes_38 : decode b_M_comes 38 = .ok (.goto 4, 3) := by decide +kernel
theorem kd_M_comes_41 : decode b_M_comes 41 = .ok (.iconst 0, 1) := by decide +kernel
theorem kd_M_comes_42 : decode b_M_comes 42 = .ok (.istore_n 2, 1) := by decide +kernel
theorem kd_M_comes_43 : decode b_M_comes 43 = .ok (.aload_n 0, 1) := by decide +kernel
theorem kd_M_comes_44 : decode b_M_comes 44 = .ok (.aload_n 0, 1) := by decide +kernel
theorem kd_M_comes_45 : decode b_M_comes 45 = .ok (.getfield 52, 3) := by decide +kernel
theorem kd_M_comes_48 : decode b_M_comes 48 = .ok (.ifCond .ne 7, 3) := by decide +kernel
theorem kd_M_comes_51 : decode b_M_comes 51 = .ok (.iload_n 2, 1) := by decide +kernel
theorem kd_M_comes_52 : decode b_M_comes 52 = .ok (.ifCond .ne 7, 3) := by decide +kernel
theorem kd_M_comes_55 : decode b_M_comes 55 = .ok (.iconst 1, 1) := by decide +kernel
theorem kd_M_comes_56 : decode b_M_comes 56 = .ok (.goto 4, 3) := by decide +kernel
theorem kd_M_comes_59 : decode b_M_comes 59 = .ok (.iconst 0, 1) := by decide +kernel
theorem kd_M_comes_60 : decode b_M_comes 60 = .ok (.putfield 52, 3) := by decide +kernel
theorem kd_M_comes_63 : decode b_M_comes 63 = .ok (.aload_n 0, 1) := by decide +kernel
theorem kd_M_comes_64 : decode b_M_comes 64 = .ok (.iload_n 2, 1) := by decide +kernel
theorem kd_M_comes_65 : decode b_M_comes 65 = .ok (.ifCond .eq 7, 3) := by decide +kernel
theorem kd_M_comes_68 : decode b_M_comes 68 = .ok (.iload_n 1, 1) := by decide +kernel
theorem kd_M_comes_69 : decode b_M_comes 69 = .ok (.goto 7, 3) := by decide +kernel
theorem kd_M_comes_72 : decode b_M_comes 72 = .ok (.aload_n 0, 1) := by decide +kernel
theorem kd_M_comes_73 : decode b_M_comes 73 = .ok (.getfield 29, 3) := by decide +kernel
theorem kd_M_comes_76 : decode b_M_comes 76 = .ok (.putfield 29, 3) := by decide +kernel
theorem kd_M_comes_79 : decode b_M_comes 79 = .ok (.iload_n 2, 1) := by decide +kernel
theorem kd_M_comes_80 : decode b_M_comes 80 = .ok (.ireturn, 1) := by decide +kernel
noncomputable def f_M_comes_76 (s0 : ZS) (l2 : Int32) (t0 : Int32) : Option (Int32 × ZS) :=
  zs_nm (zs_up s0 0 26 t0) fun s3 =>
  if ¬ (l2 = 0 ∨ l2 = 1) then none else
  some (l2, s3)
noncomputable def f_M_comes_60 (s0 : ZS) (l1 : Int32) (l2 : Int32) (t0 : Int32) : Option (Int32 × ZS) :=
  if ¬ (t0 = 0 ∨ t0 = 1) then none else
  zs_nm (zs_up s0 0 27 t0) fun s2 =>
  if l2 = 0 then
    f_M_comes_76 s2 l2 ((s2 0 26))
  else
    f_M_comes_76 s2 l2 l1
noncomputable def f_M_comes_55 (s0 : ZS) (l1 : Int32) (l2 : Int32) : Option (Int32 × ZS) :=
  f_M_comes_60 s0 l1 l2 1
noncomputable def f_M_comes_42 (s0 : ZS) (l1 : Int32) (t0 : Int32) : Option (Int32 × ZS) :=
  if (s0 0 27) = 0 then
    if t0 = 0 then
      f_M_comes_55 s0 l1 t0
    else
      f_M_comes_60 s0 l1 t0 0
  else
    f_M_comes_55 s0 l1 t0
noncomputable def f_M_comes_17 (s0 : ZS) (l1 : Int32) (t0 : Int32) : Option (Int32 × ZS) :=
  zs_nm (zs_up s0 0 0 t0) fun s1 =>
  if (s1 0 0) ≤ 0 then
    if (s1 0 26) = ((-1)) then
      f_M_comes_42 s1 l1 1
    else
      f_M_comes_42 s1 l1 0
  else
    some (0, s1)
noncomputable def f_M_comes_12 (s0 : ZS) (l1 : Int32) : Option (Int32 × ZS) :=
  f_M_comes_17 s0 l1 1
noncomputable def f_M_comes (s0 : ZS) (x1 : Int32) : Option (Int32 × ZS) :=
  if x1 < 0 then
    f_M_comes_12 s0 x1
  else
    if x1 ≤ 255 then
      f_M_comes_17 s0 x1 0
    else
      f_M_comes_12 s0 x1
theorem j_M_comes_76 {P : ZP} {E : ZE} {A : Nat → Prop} (X : ZX E (zmV P) A "FrameMachineModel" b_M_comes 3 (some .boolean) 0 0) (s0 : ZS) (l2 : Int32) (t0 : Int32) : ZJ E (zmV P) A 3 (zFi E (zmV P) A) 76 [(2, .int l2)] [.int t0, .ref (P.1 0)] s0 (f_M_comes_76 s0 l2 t0) := by
  unfold f_M_comes_76
  refine pf_M_29 79 X kd_M_comes_76 rfl ?_
  refine zj_nms (fun s3 => ?_)
  refine zj_iload_n 80 0 X kd_M_comes_79 rfl rfl rfl ?_
  refine zj_ng (fun hg => ?_)
  exact zj_zret X kd_M_comes_80 (Decidable.not_not.mp hg)
theorem j_M_comes_60 {P : ZP} {E : ZE} {A : Nat → Prop} (X : ZX E (zmV P) A "FrameMachineModel" b_M_comes 3 (some .boolean) 0 0) (s0 : ZS) (l1 : Int32) (l2 : Int32) (t0 : Int32) : ZJ E (zmV P) A 3 (zFi E (zmV P) A) 60 [(0, .ref (P.1 0)), (1, .int l1), (2, .int l2)] [.int t0, .ref (P.1 0)] s0 (f_M_comes_60 s0 l1 l2 t0) := by
  unfold f_M_comes_60
  refine zj_ng (fun hg => ?_)
  refine pf_M_52 63 X kd_M_comes_60 (Decidable.not_not.mp hg) rfl ?_
  refine zj_nms (fun s2 => ?_)
  refine zj_aload_n 64 0 X kd_M_comes_63 rfl rfl rfl ?_
  refine zj_iload_n 65 2 X kd_M_comes_64 rfl rfl rfl ?_
  refine zj_if_eq 72 68 X kd_M_comes_65 rfl rfl (fun _ => ?_) (fun _ => ?_)
  · refine zj_aload_n 73 0 X kd_M_comes_72 rfl rfl rfl ?_
    refine gf_M_29 76 X kd_M_comes_73 rfl ?_
    refine zj_loc [2] (L2 := [(2, .int l2)]) rfl ?_
    exact j_M_comes_76 X s2 l2 ((s2 0 26))
  · refine zj_iload_n 69 1 X kd_M_comes_68 rfl rfl rfl ?_
    refine zj_goto 76 X kd_M_comes_69 rfl ?_
    refine zj_loc [2] (L2 := [(2, .int l2)]) rfl ?_
    exact j_M_comes_76 X s2 l2 l1
theorem j_M_comes_55 {P : ZP} {E : ZE} {A : Nat → Prop} (X : ZX E (zmV P) A "FrameMachineModel" b_M_comes 3 (some .boolean) 0 0) (s0 : ZS) (l1 : Int32) (l2 : Int32) : ZJ E (zmV P) A 3 (zFi E (zmV P) A) 55 [(0, .ref (P.1 0)), (1, .int l1), (2, .int l2)] [.ref (P.1 0)] s0 (f_M_comes_55 s0 l1 l2) := by
  unfold f_M_comes_55
  refine zj_iconst 56 1 X kd_M_comes_55 ki_1 rfl ?_
  refine zj_goto 60 X kd_M_comes_56 rfl ?_
  exact j_M_comes_60 X s0 l1 l2 1
theorem j_M_comes_42 {P : ZP} {E : ZE} {A : Nat → Prop} (X : ZX E (zmV P) A "FrameMachineModel" b_M_comes 3 (some .boolean) 0 0) (s0 : ZS) (l1 : Int32) (t0 : Int32) : ZJ E (zmV P) A 3 (zFi E (zmV P) A) 42 [(0, .ref (P.1 0)), (1, .int l1)] [.int t0] s0 (f_M_comes_42 s0 l1 t0) := by
  unfold f_M_comes_42
  refine zj_istore_n 43 [(2, .int t0), (0, .ref (P.1 0)), (1, .int l1)] X kd_M_comes_42 rfl (Nat.le_of_ble_eq_true rfl) rfl rfl ?_
  refine zj_aload_n 44 1 X kd_M_comes_43 rfl rfl rfl ?_
  refine zj_aload_n 45 1 X kd_M_comes_44 rfl rfl rfl ?_
  refine gf_M_52 48 X kd_M_comes_45 rfl ?_
  refine zj_if_ne 55 51 X kd_M_comes_48 rfl rfl (fun _ => ?_) (fun _ => ?_)
  · refine zj_iload_n 52 0 X kd_M_comes_51 rfl rfl rfl ?_
    refine zj_if_ne 59 55 X kd_M_comes_52 rfl rfl (fun _ => ?_) (fun _ => ?_)
    · refine zj_loc [1, 2, 0] (L2 := [(0, .ref (P.1 0)), (1, .int l1), (2, .int t0)]) rfl ?_
      exact j_M_comes_55 X s0 l1 t0
    · refine zj_iconst 60 0 X kd_M_comes_59 ki_0 rfl ?_
      refine zj_loc [1, 2, 0] (L2 := [(0, .ref (P.1 0)), (1, .int l1), (2, .int t0)]) rfl ?_
      exact j_M_comes_60 X s0 l1 t0 0
  · refine zj_loc [1, 2, 0] (L2 := [(0, .ref (P.1 0)), (1, .int l1), (2, .int t0)]) rfl ?_
    exact j_M_comes_55 X s0 l1 t0
theorem j_M_comes_17 {P : ZP} {E : ZE} {A : Nat → Prop} (X : ZX E (zmV P) A "FrameMachineModel" b_M_comes 3 (some .boolean) 0 0) (s0 : ZS) (l1 : Int32) (t0 : Int32) : ZJ E (zmV P) A 3 (zFi E (zmV P) A) 17 [(0, .ref (P.1 0)), (1, .int l1)] [.int t0, .ref (P.1 0)] s0 (f_M_comes_17 s0 l1 t0) := by
  unfold f_M_comes_17
  refine pf_M_38 20 X kd_M_comes_17 rfl ?_
  refine zj_nms (fun s1 => ?_)
  refine zj_aload_n 21 0 X kd_M_comes_20 rfl rfl rfl ?_
  refine gf_M_38 24 X kd_M_comes_21 rfl ?_
  refine zj_if_le 29 27 X kd_M_comes_24 rfl rfl (fun _ => ?_) (fun _ => ?_)
  · refine zj_aload_n 30 0 X kd_M_comes_29 rfl rfl rfl ?_
    refine gf_M_29 33 X kd_M_comes_30 rfl ?_
    refine zj_iconst 34 ((-1)) X kd_M_comes_33 ki_m1 rfl ?_
    refine zj_icmp_ne 41 37 X kd_M_comes_34 rfl rfl (fun _ => ?_) (fun _ => ?_)
    · refine zj_iconst 38 1 X kd_M_comes_37 ki_1 rfl ?_
      refine zj_goto 42 X kd_M_comes_38 rfl ?_
      exact j_M_comes_42 X s1 l1 1
    · refine zj_iconst 42 0 X kd_M_comes_41 ki_0 rfl ?_
      exact j_M_comes_42 X s1 l1 0
  · refine zj_iconst 28 0 X kd_M_comes_27 ki_0 rfl ?_
    exact zj_zret X kd_M_comes_28 (Or.inl rfl)
theorem j_M_comes_12 {P : ZP} {E : ZE} {A : Nat → Prop} (X : ZX E (zmV P) A "FrameMachineModel" b_M_comes 3 (some .boolean) 0 0) (s0 : ZS) (l1 : Int32) : ZJ E (zmV P) A 3 (zFi E (zmV P) A) 12 [(0, .ref (P.1 0)), (1, .int l1)] [.ref (P.1 0)] s0 (f_M_comes_12 s0 l1) := by
  unfold f_M_comes_12
  refine zj_iconst 13 1 X kd_M_comes_12 ki_1 rfl ?_
  refine zj_goto 17 X kd_M_comes_13 rfl ?_
  exact j_M_comes_17 X s0 l1 1
theorem j_M_comes {P : ZP} {E : ZE} {A : Nat → Prop} (X : ZX E (zmV P) A "FrameMachineModel" b_M_comes 3 (some .boolean) 0 0) (s0 : ZS) (x1 : Int32) : ZJ E (zmV P) A 3 (zFi E (zmV P) A) 0 [(0, .ref (P.1 0)), (1, .int x1)] [] s0 (f_M_comes s0 x1) := by
  unfold f_M_comes
  refine zj_aload_n 1 0 X kd_M_comes_0 rfl rfl rfl ?_
  refine zj_iload_n 2 1 X kd_M_comes_1 rfl rfl rfl ?_
  refine zj_if_lt 12 5 X kd_M_comes_2 rfl rfl (fun _ => ?_) (fun _ => ?_)
  · exact j_M_comes_12 X s0 x1
  · refine zj_iload_n 6 1 X kd_M_comes_5 rfl rfl rfl ?_
    refine zj_sipush 9 255 X kd_M_comes_6 ks_255 rfl ?_
    refine zj_icmp_le 16 12 X kd_M_comes_9 rfl rfl (fun _ => ?_) (fun _ => ?_)
    · refine zj_iconst 17 0 X kd_M_comes_16 ki_0 rfl ?_
      exact j_M_comes_17 X s0 x1 0
    · exact j_M_comes_12 X s0 x1
theorem c_M_comes {l : Launch} {P : ZP} (hV : ZVok (zmV P)) (s0 : ZS) (x1 : Int32) {z : Int32 × ZS} (h : f_M_comes s0 x1 = some z) : zMi l y_M_comes b_M_comes 3 (some .boolean) 0 0 (zmV P) s0 [.ref (P.1 0), .int x1] z :=
  zMi_of (by decide +kernel) rfl rfl (Nat.le_of_ble_eq_true rfl) hV (fun _ X => j_M_comes X s0 x1) h
