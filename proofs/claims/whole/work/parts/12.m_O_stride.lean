-- FrameMachine$Operand.stride()I
theorem kd_O_stride_0 : decode b_O_stride 0 = .ok (.aload_n 0, 1) := by decide +kernel
theorem kd_O_stride_1 : decode b_O_stride 1 = .ok (.getfield 41, 3) := by decide +kernel
theorem kd_O_stride_4 : decode b_O_stride 4 = .ok (.ifCond .ne 16, 3) := by decide +kernel
theorem kd_O_stride_7 : decode b_O_stride 7 = .ok (.aload_n 0, 1) := by decide +kernel
theorem kd_O_stride_8 : decode b_O_stride 8 = .ok (.getfield 35, 3) := by decide +kernel
theorem kd_O_stride_11 : decode b_O_stride 11 = .ok (.bipush 7, 2) := by decide +kernel
theorem kd_O_stride_13 : decode b_O_stride 13 = .ok (.if_icmp .ne 7, 3) := by decide +kernel
theorem kd_O_stride_16 : decode b_O_stride 16 = .ok (.iconst 2, 1) := by decide +kernel
theorem kd_O_stride_17 : decode b_O_stride 17 = .ok (.goto 9, 3) := by decide +kernel
theorem kd_O_stride_20 : decode b_O_stride 20 = .ok (.iconst 1, 1) := by decide +kernel
theorem kd_O_stride_21 : decode b_O_stride 21 = .ok (.aload_n 0, 1) := by decide +kernel
theorem kd_O_stride_22 : decode b_O_stride 22 = .ok (.getfield 41, 3) := by decide +kernel
theorem kd_O_stride_25 : decode b_O_stride 25 = .ok (.ishl, 1) := by decide +kernel
theorem kd_O_stride_26 : decode b_O_stride 26 = .ok (.ireturn, 1) := by decide +kernel
noncomputable def f_O_stride_20 (s0 : ZS)  : Option (Int32 × ZS) :=
  some (zo_shl 1 (s0 0 31), s0)
noncomputable def f_O_stride (s0 : ZS)  : Option (Int32 × ZS) :=
  if (s0 0 31) = 0 then
    if (s0 0 30) = 7 then
      some (2, s0)
    else
      f_O_stride_20 s0
  else
    f_O_stride_20 s0
theorem j_O_stride_20 {P : ZP} {E : ZE} {A : Nat → Prop} (X : ZX E (zcV P) A "FrameMachine$Operand" b_O_stride 1 (some .int) 0 0) (s0 : ZS)  : ZJ E (zcV P) A 1 (zFi E (zcV P) A) 20 [(0, .ref (P.1 8))] [] s0 (f_O_stride_20 s0) := by
  unfold f_O_stride_20
  refine zj_iconst 21 1 X kd_O_stride_20 ki_1 rfl ?_
  refine zj_aload_n 22 0 X kd_O_stride_21 rfl rfl rfl ?_
  refine gf_O_41 25 X kd_O_stride_22 rfl ?_
  refine zj_ishl 26 X kd_O_stride_25 rfl ?_
  exact zj_iret X kd_O_stride_26
theorem j_O_stride {P : ZP} {E : ZE} {A : Nat → Prop} (X : ZX E (zcV P) A "FrameMachine$Operand" b_O_stride 1 (some .int) 0 0) (s0 : ZS)  : ZJ E (zcV P) A 1 (zFi E (zcV P) A) 0 [(0, .ref (P.1 8))] [] s0 (f_O_stride s0) := by
  unfold f_O_stride
  refine zj_aload_n 1 0 X kd_O_stride_0 rfl rfl rfl ?_
  refine gf_O_41 4 X kd_O_stride_1 rfl ?_
  refine zj_if_ne 20 7 X kd_O_stride_4 rfl rfl (fun _ => ?_) (fun _ => ?_)
  · refine zj_aload_n 8 0 X kd_O_stride_7 rfl rfl rfl ?_
    refine gf_O_35 11 X kd_O_stride_8 rfl ?_
    refine zj_bipush 13 7 X kd_O_stride_11 kb_7 rfl ?_
    refine zj_icmp_ne 20 16 X kd_O_stride_13 rfl rfl (fun _ => ?_) (fun _ => ?_)
    · refine zj_iconst 17 2 X kd_O_stride_16 ki_2 rfl ?_
      refine zj_goto 26 X kd_O_stride_17 rfl ?_
      exact zj_iret X kd_O_stride_26
    · exact j_O_stride_20 X s0
  · exact j_O_stride_20 X s0
theorem c_O_stride {l : Launch} {P : ZP} (hV : ZVok (zcV P)) (s0 : ZS)  {z : Int32 × ZS} (h : f_O_stride s0  = some z) : zMi l y_O_stride b_O_stride 1 (some .int) 0 0 (zcV P) s0 [.ref (P.1 8)] z :=
  zMi_of (by decide +kernel) rfl rfl (Nat.le_of_ble_eq_true rfl) hV (fun _ X => j_O_stride X s0 ) h
theorem kc_O_54 : zCV "FrameMachine$Operand" 54 y_O_stride b_O_stride 1 (some .int) 0 := ⟨⟨kw_576, kw_578, ksel_10, kw_9, kw_579⟩, by decide +kernel, by decide +kernel, by decide +kernel⟩
theorem mc_O_54 {ρ : Type} {E : ZE} {P : ZP} {A : Nat → Prop} {cc : ByteArray} {nL : Nat} {ret : Option FieldType} {fr lo : Nat} {F : ρ → State → Prop} {pc : Nat} {L : List (Nat × Value)} {rest : List Value} {σ : ZS}  {K : Int32 × ZS → Option ρ} (q : Nat) (X : ZX E (zcV P) A "FrameMachine$Operand" cc nL ret fr lo) (d : decode cc pc = .ok (.invokevirtual 54, 3)) (hfr : 0 + 1 ≤ fr) (hlo : 8 + (1 + 11) + 0 ≤ lo) (hr : (rest.map fun v => v.category).sum ≤ 8) (hq : pc + 3 = q) (kk : ∀ p : Int32 × ZS, ZJ E (zcV P) A nL F q L (.int p.1 :: rest) p.2 (K p)) : ZJ E (zcV P) A nL F pc L (.ref (P.1 8) :: rest) σ ((f_O_stride σ ).bind K) :=
  zj_cVi q 8 8 (As := []) (rest := rest) X kc_O_54 hfr hlo (fun p h => c_O_stride (zx_v X) σ  h) rfl rfl rfl hr d hq kk
-- FrameMachine$Pointers.nextLong()I
theorem kd_Q_nextLong_0 : decode b_Q_nextLong 0 = .ok (.aload_n 0, 1) := by decide +kernel
theorem kd_Q_nextLong_1 : decode b_Q_nextLong 1 = .ok (.invokevirtual 34, 3) := by decide +kernel
theorem kd_Q_nextLong_4 : decode b_Q_nextLong 4 = .ok (.istore_n 1, 1) := by decide +kernel
theorem kd_Q_nextLong_5 : decode b_Q_nextLong 5 = .ok (.aload_n 0, 1) := by decide +kernel
theorem kd_Q_nextLong_6 : decode b_Q_nextLong 6 = .ok (.getfield 9, 3) := by decide +kernel
theorem kd_Q_nextLong_9 : decode b_Q_nextLong 9 = .ok (.getfield 31, 3) := by decide +kernel
theorem kd_Q_nextLong_12 : decode b_Q_nextLong 12 = .ok (.ifCond .eq 5, 3) := by decide +kernel
theorem kd_Q_nextLong_15 : decode b_Q_nextLong 15 = .ok (.iconst 0, 1) := by decide +kernel
theorem kd_Q_nextLong_16 : decode b_Q_nextLong 16 = .ok (.ireturn, 1) := by decide +kernel
theorem kd_Q_nextLong_17 : decode b_Q_nextLong 17 = .ok (.iload_n 1, 1) := by decide +kernel
theorem kd_Q_nextLong_18 : decode b_Q_nextLong 18 = .ok (.bipush 16, 2) := by decide +kernel
theorem kd_Q_nextLong_20 : decode b_Q_nextLong 20 = .ok (.ishl, 1) := by decide +kernel
theorem kd_Q_nextLong_21 : decode b_Q_nextLong 21 = .ok (.aload_n 0, 1) := by decide +kernel
theorem kd_Q_nextLong_22 : decode b_Q_nextLong 22 = .ok (.invokevirtual 34, 3) := by decide +kernel
theorem kd_Q_nextLong_25 : decode b_Q_nextLong 25 = .ok (.ior, 1) := by decide +kernel
theorem kd_Q_nextLong_26 : decode b_Q_nextLong 26 = .ok (.ireturn, 1) := by decide +kernel
noncomputable def f_Q_nextLong (s0 : ZS)  : Option (Int32 × ZS) :=
  (f_Q_nextWord s0 ).bind fun p1 =>
  if (p1.2 0 10) = 0 then
    (f_Q_nextWord p1.2 ).bind fun p2 =>
    some ((zo_shl p1.1 16) ||| p2.1, p2.2)
  else
    some (0, p1.2)
theorem j_Q_nextLong {P : ZP} {E : ZE} {A : Nat → Prop} (X : ZX E (zcV P) A "FrameMachine$Pointers" b_Q_nextLong 2 (some .int) 3 70) (s0 : ZS)  : ZJ E (zcV P) A 2 (zFi E (zcV P) A) 0 [(0, .ref (P.1 4))] [] s0 (f_Q_nextLong s0) := by
  unfold f_Q_nextLong
  refine zj_aload_n 1 0 X kd_Q_nextLong_0 rfl rfl rfl ?_
  refine mc_Q_34 4 X kd_Q_nextLong_1 (Nat.le_of_ble_eq_true rfl) (Nat.le_of_ble_eq_true rfl) (Nat.le_of_ble_eq_true rfl) rfl (fun p1 => ?_)
  refine zj_istore_n 5 [(1, .int p1.1), (0, .ref (P.1 4))] X kd_Q_nextLong_4 rfl (Nat.le_of_ble_eq_true rfl) rfl rfl ?_
  refine zj_aload_n 6 1 X kd_Q_nextLong_5 rfl rfl rfl ?_
  refine gf_Q_9 9 X kd_Q_nextLong_6 rfl ?_
  refine gf_Q_31 12 X kd_Q_nextLong_9 rfl ?_
  refine zj_if_eq 17 15 X kd_Q_nextLong_12 rfl rfl (fun _ => ?_) (fun _ => ?_)
  · refine zj_iload_n 18 0 X kd_Q_nextLong_17 rfl rfl rfl ?_
    refine zj_bipush 20 16 X kd_Q_nextLong_18 kb_16 rfl ?_
    refine zj_ishl 21 X kd_Q_nextLong_20 rfl ?_
    refine zj_aload_n 22 1 X kd_Q_nextLong_21 rfl rfl rfl ?_
    refine mc_Q_34 25 X kd_Q_nextLong_22 (Nat.le_of_ble_eq_true rfl) (Nat.le_of_ble_eq_true rfl) (Nat.le_of_ble_eq_true rfl) rfl (fun p2 => ?_)
    refine zj_ior 26 X kd_Q_nextLong_25 rfl ?_
    exact zj_iret X kd_Q_nextLong_26
  · refine zj_iconst 16 0 X kd_Q_nextLong_15 ki_0 rfl ?_
    exact zj_iret X kd_Q_nextLong_16
theorem c_Q_nextLong {l : Launch} {P : ZP} (hV : ZVok (zcV P)) (s0 : ZS)  {z : Int32 × ZS} (h : f_Q_nextLong s0  = some z) : zMi l y_Q_nextLong b_Q_nextLong 2 (some .int) 3 70 (zcV P) s0 [.ref (P.1 4)] z :=
  zMi_of (by decide +kernel) rfl rfl (Nat.le_of_ble_eq_true rfl) hV (fun _ X => j_Q_nextLong X s0 ) h
theorem kc_O_62 : zCV "FrameMachine$Operand" 62 y_Q_nextLong b_Q_nextLong 2 (some .int) 0 := ⟨⟨kw_581, kw_582, kw_583, kw_5, kw_584⟩, by decide +kernel, by decide +kernel, by decide +kernel⟩
theorem mc_O_62 {ρ : Type} {E : ZE} {P : ZP} {A : Nat → Prop} {cc : ByteArray} {nL : Nat} {ret : Option FieldType} {fr lo : Nat} {F : ρ → State → Prop} {pc : Nat} {L : List (Nat × Value)} {rest : List Value} {σ : ZS}  {K : Int32 × ZS → Option ρ} (q : Nat) (X : ZX E (zcV P) A "FrameMachine$Operand" cc nL ret fr lo) (d : decode cc pc = .ok (.invokevirtual 62, 3)) (hfr : 3 + 1 ≤ fr) (hlo : 8 + (2 + 11) + 70 ≤ lo) (hr : (rest.map fun v => v.category).sum ≤ 8) (hq : pc + 3 = q) (kk : ∀ p : Int32 × ZS, ZJ E (zcV P) A nL F q L (.int p.1 :: rest) p.2 (K p)) : ZJ E (zcV P) A nL F pc L (.ref (P.1 4) :: rest) σ ((f_Q_nextLong σ ).bind K) :=
  zj_cVi q 4 4 (As := []) (rest := rest) X kc_O_62 hfr hlo (fun p h => c_Q_nextLong (zx_v X) σ  h) rfl rfl rfl hr d hq kk
-- FrameMachine$Operand.locate(LFrameMachine$Instruction;)V
theorem kd_O_locate_0 : decode b_O_locate 0 = .ok (.aload_n 0, 1) := by decide +kernel
theorem kd_O_locate_1 : decode b_O_locate 1 = .ok (.aload_n 1, 1) := by decide +kernel
theorem kd_O_locate_2 : decode b_O_locate 2 = .ok (.invokevirtual 23, 3) := by decide +kernel
theorem kd_O_locate_5 : decode b_O_locate 5 = .ok (.putfield 29, 3) := by decide +kernel
theorem kd_O_locate_8 : decode b_O_locate 8 = .ok (.aload_n 0, 1) := by decide +kernel
theorem kd_O_locate_9 : decode b_O_locate 9 = .ok (.aload_n 1, 1) := by decide +kernel
theorem kd_O_locate_10 : decode b_O_locate 10 = .ok (.getfield 32, 3) := by decide +kernel
theorem kd_O_locate_13 : decode b_O_locate 13 = .ok (.bipush 7, 2) := by decide +kernel
theorem kd_O_locate_15 : decode b_O_locate 15 = .ok (.iand, 1) := by decide +kernel
theorem kd_O_locate_16 : decode b_O_locate 16 = .ok (.putfield 35, 3) := by decide +kernel
theorem kd_O_locate_19 : decode b_O_locate 19 = .ok (.aload_n 0, 1) := by decide +kernel
theorem kd_O_locate_20 : decode b_O_locate 20 = .ok (.aload_n 1, 1) := by decide +kernel
theorem kd_O_locate_21 : decode b_O_locate 21 = .ok (.getfield 38, 3) := by decide +kernel
theorem kd_O_locate_24 : decode b_O_locate 24 = .ok (.putfield 41, 3) := by decide +kernel
theorem kd_O_locate_27 : decode b_O_locate 27 = .ok (.aload_n 0, 1) := by decide +kernel
theorem kd_O_locate_28 : decode b_O_locate 28 = .ok (.getfield 15, 3) := by decide +kernel
theorem kd_O_locate_31 : decode b_O_locate 31 = .ok (.getfield 42, 3) := by decide +kernel
theorem kd_O_locate_34 : decode b_O_locate 34 = .ok (.aload_n 0, 1) := by decide +kernel
theorem kd_O_locate_35 : decode b_O_locate 35 = .ok (.getfield 35, 3) := by decide +kernel
theorem kd_O_locate_38 : decode b_O_locate 38 = .ok (.iaload, 1) := by decide +kernel
theorem kd_O_locate_39 : decode b_O_locate 39 = .ok (.istore_n 2, 1) := by decide +kernel
theorem kd_O_locate_40 : decode b_O_locate 40 = .ok (.aload_n 0, 1) := by decide +kernel
theorem kd_O_locate_41 : decode b_O_locate 41 = .ok (.getfield 15, 3) := by decide +kernel
theorem kd_O_locate_44 : decode b_O_locate 44 = .ok (.getfield 48, 3) := by decide +kernel
theorem kd_O_locate_47 : decode b_O_locate 47 = .ok (.istore_n 3, 1) := by decide +kernel
theorem kd_O_locate_48 : decode b_O_locate 48 = .ok (.aload_n 0, 1) := by decide +kernel
theorem kd_O_locate_49 : decode b_O_locate 49 = .ok (.getfield 29, 3) := by decide +kernel
theorem kd_O_locate_52 : decode b_O_locate 52 = .ok (.tableswitch 206 2 9 #[48, 56, 82, 111, 128, 143, 157, 189], 48) := by decide +kernel
theorem kd_O_locate_100 : decode b_O_locate 100 = .ok (.aload_n 0, 1) := by decide +kernel
theorem kd_O_locate_101 : decode b_O_locate 101 = .ok (.iload_n 2, 1) := by decide +kernel
theorem kd_O_locate_102 : decode b_O_locate 102 = .ok (.putfield 51, 3) := by decide +kernel
theorem kd_O_locate_105 : decode b_O_locate 105 = .ok (.goto 153, 3) := by decide +kernel
theorem kd_O_locate_108 : decode b_O_locate 108 = .ok (.aload_n 0, 1) := by decide +kernel
theorem kd_O_locate_109 : decode b_O_locate 109 = .ok (.iload_n 2, 1) := by decide +kernel
theorem kd_O_locate_110 : decode b_O_locate 110 = .ok (.putfield 51, 3) := by decide +kernel
theorem kd_O_locate_113 : decode b_O_locate 113 = .ok (.aload_n 0, 1) := by decide +kernel
theorem kd_O_locate_114 : decode b_O_locate 114 = .ok (.getfield 15, 3) := by decide +kernel
theorem kd_O_locate_117 : decode b_O_locate 117 = .ok (.getfield 42, 3) := by decide +kernel
theorem kd_O_locate_120 : decode b_O_locate 120 = .ok (.aload_n 0, 1) := by decide +kernel
theorem kd_O_locate_121 : decode b_O_locate 121 = .ok (.getfield 35, 3) := by decide +kernel
theorem kd_O_locate_124 : decode b_O_locate 124 = .ok (.iload_n 2, 1) := by decide +kernel
theorem kd_O_locate_125 : decode b_O_locate 125 = .ok (.aload_n 0, 1) := by decide +kernel
theorem kd_O_locate_126 : decode b_O_locate 126 = .ok (.invokevirtual 54, 3) := by decide +kernel
theorem kd_O_locate_129 : decode b_O_locate 129 = .ok (.iadd, 1) := by decide +kernel
theorem kd_O_locate_130 : decode b_O_locate 130 = .ok (.iastore, 1) := by decide +kernel
theorem kd_O_locate_131 : decode b_O_locate 131 = .ok (.goto 127, 3) := by decide +kernel
theorem kd_O_locate_134 : decode b_O_locate 134 = .ok (.aload_n 0, 1) := by decide +kernel
theorem kd_O_locate_135 : decode b_O_locate 135 = .ok (.iload_n 2, 1) := by decide +kernel
theorem kd_O_locate_136 : decode b_O_locate 136 = .ok (.aload_n 0, 1) := by decide +kernel
theorem kd_O_locate_137 : decode b_O_locate 137 = .ok (.invokevirtual 54, 3) := by decide +kernel
theorem kd_O_locate_140 : decode b_O_locate 140 = .ok (.isub, 1) := by decide +kernel
theorem kd_O_locate_141 : decode b_O_locate 141 = .ok (.putfield 51, 3) := by decide +kernel
theorem kd_O_locate_144 : decode b_O_locate 144 = .ok (.aload_n 0, 1) := by decide +kernel
theorem kd_O_locate_145 : decode b_O_locate 145 = .ok (.getfield 15, 3) := by decide +kernel
theorem kd_O_locate_148 : decode b_O_locate 148 = .ok (.getfield 42, 3) := by decide +kernel
theorem kd_O_locate_151 : decode b_O_locate 151 = .ok (.aload_n 0, 1) := by decide +kernel
theorem kd_O_locate_152 : decode b_O_locate 152 = .ok (.getfield 35, 3) := by decide +kernel
theorem kd_O_locate_155 : decode b_O_locate 155 = .ok (.aload_n 0, 1) := by decide +kernel
theorem kd_O_locate_156 : decode b_O_locate 156 = .ok (.getfield 51, 3) := by decide +kernel
theorem kd_O_locate_159 : decode b_O_locate 159 = .ok (.iastore, 1) := by decide +kernel
theorem kd_O_locate_160 : decode b_O_locate 160 = .ok (.goto 98, 3) := by decide +kernel
theorem kd_O_locate_163 : decode b_O_locate 163 = .ok (.aload_n 0, 1) := by decide +kernel
theorem kd_O_locate_164 : decode b_O_locate 164 = .ok (.iload_n 2, 1) := by decide +kernel
theorem kd_O_locate_165 : decode b_O_locate 165 = .ok (.aload_n 0, 1) := by decide +kernel
theorem kd_O_locate_166 : decode b_O_locate 166 = .ok (.getfield 19, 3) := by decide +kernel
theorem kd_O_locate_169 : decode b_O_locate 169 = .ok (.invokevirtual 57, 3) := by decide +kernel
theorem kd_O_locate_172 : decode b_O_locate 172 = .ok (.i2s, 1) := by decide +kernel
theorem kd_O_locate_173 : decode b_O_locate 173 = .ok (.iadd, 1) := by decide +kernel
theorem kd_O_locate_174 : decode b_O_locate 174 = .ok (.putfield 51, 3) := by decide +kernel
theorem kd_O_locate_177 : decode b_O_locate 177 = .ok (.goto 81, 3) := by decide +kernel
theorem kd_O_locate_180 : decode b_O_locate 180 = .ok (.aload_n 0, 1) := by decide +kernel
theorem kd_O_locate_181 : decode b_O_locate 181 = .ok (.aload_n 0, 1) := by decide +kernel
theorem kd_O_locate_182 : decode b_O_locate 182 = .ok (.getfield 19, 3) := by decide +kernel
theorem kd_O_locate_185 : decode b_O_locate 185 = .ok (.invokevirtual 57, 3) := by decide +kernel
theorem kd_O_locate_188 : decode b_O_locate 188 = .ok (.i2s, 1) := by decide +kernel
theorem kd_O_locate_189 : decode b_O_locate 189 = .ok (.putfield 51, 3) := by decide +kernel
theorem kd_O_locate_192 : decode b_O_locate 192 = .ok (.goto 66, 3) := by decide +kernel
theorem kd_O_locate_195 : decode b_O_locate 195 = .ok (.aload_n 0, 1) := by decide +kernel
theorem kd_O_locate_196 : decode b_O_locate 196 = .ok (.aload_n 0, 1) := by decide +kernel
theorem kd_O_locate_197 : decode b_O_locate 197 = .ok (.getfield 19, 3) := by decide +kernel
theorem kd_O_locate_200 : decode b_O_locate 200 = .ok (.invokevirtual 62, 3) := by decide +kernel
theorem kd_O_locate_203 : decode b_O_locate 203 = .ok (.putfield 51, 3) := by decide +kernel
theorem kd_O_locate_206 : decode b_O_locate 206 = .ok (.goto 52, 3) := by decide +kernel
theorem kd_O_locate_209 : decode b_O_locate 209 = .ok (.aload_n 0, 1) := by decide +kernel
theorem kd_O_locate_210 : decode b_O_locate 210 = .ok (.aload_n 0, 1) := by decide +kernel
theorem kd_O_locate_211 : decode b_O_locate 211 = .ok (.getfield 41, 3) := by decide +kernel
theorem kd_O_locate_214 : decode b_O_locate 214 = .ok (.iconst 2, 1) := by decide +kernel
theorem kd_O_locate_215 : decode b_O_locate 215 = .ok (.if_icmp .ne 13, 3) := by decide +kernel
theorem kd_O_locate_218 : decode b_O_locate 218 = .ok (.aload_n 0, 1) := by decide +kernel
theorem kd_O_locate_219 : decode b_O_locate 219 = .ok (.getfield 19, 3) := by decide +kernel
theorem kd_O_locate_222 : decode b_O_locate 222 = .ok (.invokevirtual 62, 3) := by decide +kernel
theorem kd_O_locate_225 : decode b_O_locate 225 = .ok (.goto 10, 3) := by decide +kernel
theorem kd_O_locate_228 : decode b_O_locate 228 = .ok (.aload_n 0, 1) := by decide +kernel
theorem kd_O_locate_229 : decode b_O_locate 229 = .ok (.getfield 19, 3) := by decide +kernel
theorem kd_O_locate_232 : decode b_O_locate 232 = .ok (.invokevirtual 57, 3) := by decide +kernel
theorem kd_O_locate_235 : decode b_O_locate 235 = .ok (.putfield 65, 3) := by decide +kernel
theorem kd_O_locate_238 : decode b_O_locate 238 = .ok (.goto 20, 3) := by decide +kernel
theorem kd_O_locate_241 : decode b_O_locate 241 = .ok (.aload_n 0, 1) := by decide +kernel
theorem kd_O_locate_242 : decode b_O_locate 242 = .ok (.iload_n 3, 1) := by decide +kernel
theorem kd_O_locate_243 : decode b_O_locate 243 = .ok (.aload_n 0, 1) := by decide +kernel
theorem kd_O_locate_244 : decode b_O_locate 244 = .ok (.getfield 19, 3) := by decide +kernel
theorem kd_O_locate_247 : decode b_O_locate 247 = .ok (.invokevirtual 57, 3) := by decide +kernel
theorem kd_O_locate_250 : decode b_O_locate 250 = .ok (.i2s, 1) := by decide +kernel
theorem kd_O_locate_251 : decode b_O_locate 251 = .ok (.iadd, 1) := by decide +kernel
theorem kd_O_locate_252 : decode b_O_locate 252 = .ok (.putfield 51, 3) := by decide +kernel
theorem kd_O_locate_255 : decode b_O_locate 255 = .ok (.goto 3, 3) := by decide +kernel
theorem kd_O_locate_258 : decode b_O_locate 258 = .ok (.return_, 1) := by decide +kernel
noncomputable def f_O_locate_235 (s0 : ZS) (t0 : Int32) : Option (ZS) :=
  zs_nm (zs_up s0 0 33 t0) fun s23 =>
  some s23
noncomputable def f_O_locate (s0 : ZS)  : Option (ZS) :=
  (f_I_way s0 ).bind fun p1 =>
  zs_nm (zs_up p1.2 0 29 p1.1) fun s2 =>
  zs_nm (zs_up s2 0 30 ((s2 0 28) &&& 7)) fun s3 =>
  zs_nm (zs_up s3 0 31 (s3 0 25)) fun s4 =>
  zs_nm (s4 0 30) fun v5 =>
  if v5 < 0 ∨ 8 ≤ v5.toNatClampNeg then none else
  zs_nm (s4 3 v5.toNatClampNeg) fun v6 =>
  zs_nm (s4 0 14) fun v7 =>
  zs_nm (s4 0 29) fun v8 =>
  if v8 = 2 then
    zs_nm (zs_up s4 0 32 v6) fun s9 =>
    some s9
  else if v8 = 3 then
    zs_nm (zs_up s4 0 32 v6) fun s10 =>
    (f_O_stride s10 ).bind fun p11 =>
    if (s10 0 30) < 0 ∨ 8 ≤ (s10 0 30).toNatClampNeg then none else
    zs_nm (zs_up p11.2 3 (s10 0 30).toNatClampNeg (v6 + p11.1)) fun s12 =>
    some s12
  else if v8 = 4 then
    (f_O_stride s4 ).bind fun p13 =>
    zs_nm (zs_up p13.2 0 32 (v6 - p13.1)) fun s14 =>
    if (s14 0 30) < 0 ∨ 8 ≤ (s14 0 30).toNatClampNeg then none else
    zs_nm (zs_up s14 3 (s14 0 30).toNatClampNeg (s14 0 32)) fun s15 =>
    some s15
  else if v8 = 5 then
    (f_Q_nextWord s4 ).bind fun p16 =>
    zs_nm (zs_up p16.2 0 32 (v6 + (p16.1.toInt16.toInt32))) fun s17 =>
    some s17
  else if v8 = 6 then
    (f_Q_nextWord s4 ).bind fun p18 =>
    zs_nm (zs_up p18.2 0 32 (p18.1.toInt16.toInt32)) fun s19 =>
    some s19
  else if v8 = 7 then
    (f_Q_nextLong s4 ).bind fun p20 =>
    zs_nm (zs_up p20.2 0 32 p20.1) fun s21 =>
    some s21
  else if v8 = 8 then
    if (s4 0 31) = 2 then
      (f_Q_nextLong s4 ).bind fun p24 =>
      f_O_locate_235 p24.2 p24.1
    else
      (f_Q_nextWord s4 ).bind fun p22 =>
      f_O_locate_235 p22.2 p22.1
  else if v8 = 9 then
    (f_Q_nextWord s4 ).bind fun p25 =>
    zs_nm (zs_up p25.2 0 32 (v7 + (p25.1.toInt16.toInt32))) fun s26 =>
    some s26
  else 
    some s4
theorem j_O_locate_235 {P : ZP} {E : ZE} {A : Nat → Prop} (X : ZX E (zcV P) A "FrameMachine$Operand" b_O_locate 4 none 4 91) (s0 : ZS) (t0 : Int32) : ZJ E (zcV P) A 4 (zFv E (zcV P) A) 235 [] [.int t0, .ref (P.1 8)] s0 (f_O_locate_235 s0 t0) := by
  unfold f_O_locate_235
  refine pf_O_65 238 X kd_O_locate_235 rfl ?_
  refine zj_nms (fun s23 => ?_)
  refine zj_goto 258 X kd_O_locate_238 rfl ?_
  exact zj_vret X kd_O_locate_258
theorem j_O_locate {P : ZP} {E : ZE} {A : Nat → Prop} (X : ZX E (zcV P) A "FrameMachine$Operand" b_O_locate 4 none 4 91) (s0 : ZS)  : ZJ E (zcV P) A 4 (zFv E (zcV P) A) 0 [(0, .ref (P.1 8)), (1, .ref (P.1 7))] [] s0 (f_O_locate s0) := by
  unfold f_O_locate
  refine zj_aload_n 1 0 X kd_O_locate_0 rfl rfl rfl ?_
  refine zj_aload_n 2 1 X kd_O_locate_1 rfl rfl rfl ?_
  refine mc_O_23 5 X kd_O_locate_2 (Nat.le_of_ble_eq_true rfl) (Nat.le_of_ble_eq_true rfl) (Nat.le_of_ble_eq_true rfl) rfl (fun p1 => ?_)
  refine pf_O_29 8 X kd_O_locate_5 rfl ?_
  refine zj_nms (fun s2 => ?_)
  refine zj_aload_n 9 0 X kd_O_locate_8 rfl rfl rfl ?_
  refine zj_aload_n 10 1 X kd_O_locate_9 rfl rfl rfl ?_
  refine gf_O_32 13 X kd_O_locate_10 rfl ?_
  refine zj_bipush 15 7 X kd_O_locate_13 kb_7 rfl ?_
  refine zj_iand 16 X kd_O_locate_15 rfl ?_
  refine pf_O_35 19 X kd_O_locate_16 rfl ?_
  refine zj_nms (fun s3 => ?_)
  refine zj_aload_n 20 0 X kd_O_locate_19 rfl rfl rfl ?_
  refine zj_aload_n 21 1 X kd_O_locate_20 rfl rfl rfl ?_
  refine gf_O_38 24 X kd_O_locate_21 rfl ?_
  refine pf_O_41 27 X kd_O_locate_24 rfl ?_
  refine zj_nms (fun s4 => ?_)
  refine zj_aload_n 28 0 X kd_O_locate_27 rfl rfl rfl ?_
  refine gf_O_15 31 X kd_O_locate_28 rfl ?_
  refine gf_O_42 34 X kd_O_locate_31 rfl ?_
  refine zj_aload_n 35 0 X kd_O_locate_34 rfl rfl rfl ?_
  refine gf_O_35 38 X kd_O_locate_35 rfl ?_
  refine zj_nmi (fun v5 => ?_)
  refine zj_ng (fun hg => ?_)
  refine al_C_3 39 X kd_O_locate_38 hg rfl ?_
  refine zj_nmi (fun v6 => ?_)
  refine zj_istore_n 40 [(2, .int v6), (0, .ref (P.1 8)), (1, .ref (P.1 7))] X kd_O_locate_39 rfl (Nat.le_of_ble_eq_true rfl) rfl rfl ?_
  refine zj_aload_n 41 1 X kd_O_locate_40 rfl rfl rfl ?_
  refine gf_O_15 44 X kd_O_locate_41 rfl ?_
  refine gf_O_48 47 X kd_O_locate_44 rfl ?_
  refine zj_nmi (fun v7 => ?_)
  refine zj_istore_n 48 [(3, .int v7), (2, .int v6), (0, .ref (P.1 8)), (1, .ref (P.1 7))] X kd_O_locate_47 rfl (Nat.le_of_ble_eq_true rfl) rfl rfl ?_
  refine zj_aload_n 49 2 X kd_O_locate_48 rfl rfl rfl ?_
  refine gf_O_29 52 X kd_O_locate_49 rfl ?_
  refine zj_nmi (fun v8 => ?_)
  refine zj_tcase 100 X kd_O_locate_52 (by decide) (by decide) rfl rfl (fun _ => ?_) (fun h0 => ?_)
  · refine zj_aload_n 101 2 X kd_O_locate_100 rfl rfl rfl ?_
    refine zj_iload_n 102 1 X kd_O_locate_101 rfl rfl rfl ?_
    refine pf_O_51 105 X kd_O_locate_102 rfl ?_
    refine zj_nms (fun s9 => ?_)
    refine zj_goto 258 X kd_O_locate_105 rfl ?_
    exact zj_vret X kd_O_locate_258
  refine zj_tcase 108 X kd_O_locate_52 (by decide) (by decide) rfl rfl (fun _ => ?_) (fun h1 => ?_)
  · refine zj_aload_n 109 2 X kd_O_locate_108 rfl rfl rfl ?_
    refine zj_iload_n 110 1 X kd_O_locate_109 rfl rfl rfl ?_
    refine pf_O_51 113 X kd_O_locate_110 rfl ?_
    refine zj_nms (fun s10 => ?_)
    refine zj_aload_n 114 2 X kd_O_locate_113 rfl rfl rfl ?_
    refine gf_O_15 117 X kd_O_locate_114 rfl ?_
    refine gf_O_42 120 X kd_O_locate_117 rfl ?_
    refine zj_aload_n 121 2 X kd_O_locate_120 rfl rfl rfl ?_
    refine gf_O_35 124 X kd_O_locate_121 rfl ?_
    refine zj_iload_n 125 1 X kd_O_locate_124 rfl rfl rfl ?_
    refine zj_aload_n 126 2 X kd_O_locate_125 rfl rfl rfl ?_
    refine mc_O_54 129 X kd_O_locate_126 (Nat.le_of_ble_eq_true rfl) (Nat.le_of_ble_eq_true rfl) (Nat.le_of_ble_eq_true rfl) rfl (fun p11 => ?_)
    refine zj_iadd 130 X kd_O_locate_129 rfl ?_
    refine zj_ng (fun hg => ?_)
    refine as_C_3 131 X kd_O_locate_130 hg rfl ?_
    refine zj_nms (fun s12 => ?_)
    refine zj_goto 258 X kd_O_locate_131 rfl ?_
    exact zj_vret X kd_O_locate_258
  refine zj_tcase 134 X kd_O_locate_52 (by decide) (by decide) rfl rfl (fun _ => ?_) (fun h2 => ?_)
  · refine zj_aload_n 135 2 X kd_O_locate_134 rfl rfl rfl ?_
    refine zj_iload_n 136 1 X kd_O_locate_135 rfl rfl rfl ?_
    refine zj_aload_n 137 2 X kd_O_locate_136 rfl rfl rfl ?_
    refine mc_O_54 140 X kd_O_locate_137 (Nat.le_of_ble_eq_true rfl) (Nat.le_of_ble_eq_true rfl) (Nat.le_of_ble_eq_true rfl) rfl (fun p13 => ?_)
    refine zj_isub 141 X kd_O_locate_140 rfl ?_
    refine pf_O_51 144 X kd_O_locate_141 rfl ?_
    refine zj_nms (fun s14 => ?_)
    refine zj_aload_n 145 2 X kd_O_locate_144 rfl rfl rfl ?_
    refine gf_O_15 148 X kd_O_locate_145 rfl ?_
    refine gf_O_42 151 X kd_O_locate_148 rfl ?_
    refine zj_aload_n 152 2 X kd_O_locate_151 rfl rfl rfl ?_
    refine gf_O_35 155 X kd_O_locate_152 rfl ?_
    refine zj_aload_n 156 2 X kd_O_locate_155 rfl rfl rfl ?_
    refine gf_O_51 159 X kd_O_locate_156 rfl ?_
    refine zj_ng (fun hg => ?_)
    refine as_C_3 160 X kd_O_locate_159 hg rfl ?_
    refine zj_nms (fun s15 => ?_)
    refine zj_goto 258 X kd_O_locate_160 rfl ?_
    exact zj_vret X kd_O_locate_258
  refine zj_tcase 163 X kd_O_locate_52 (by decide) (by decide) rfl rfl (fun _ => ?_) (fun h3 => ?_)
  · refine zj_aload_n 164 2 X kd_O_locate_163 rfl rfl rfl ?_
    refine zj_iload_n 165 1 X kd_O_locate_164 rfl rfl rfl ?_
    refine zj_aload_n 166 2 X kd_O_locate_165 rfl rfl rfl ?_
    refine gf_O_19 169 X kd_O_locate_166 rfl ?_
    refine mc_O_57 172 X kd_O_locate_169 (Nat.le_of_ble_eq_true rfl) (Nat.le_of_ble_eq_true rfl) (Nat.le_of_ble_eq_true rfl) rfl (fun p16 => ?_)
    refine zj_i2s 173 X kd_O_locate_172 rfl ?_
    refine zj_iadd 174 X kd_O_locate_173 rfl ?_
    refine pf_O_51 177 X kd_O_locate_174 rfl ?_
    refine zj_nms (fun s17 => ?_)
    refine zj_goto 258 X kd_O_locate_177 rfl ?_
    exact zj_vret X kd_O_locate_258
  refine zj_tcase 180 X kd_O_locate_52 (by decide) (by decide) rfl rfl (fun _ => ?_) (fun h4 => ?_)
  · refine zj_aload_n 181 2 X kd_O_locate_180 rfl rfl rfl ?_
    refine zj_aload_n 182 2 X kd_O_locate_181 rfl rfl rfl ?_
    refine gf_O_19 185 X kd_O_locate_182 rfl ?_
    refine mc_O_57 188 X kd_O_locate_185 (Nat.le_of_ble_eq_true rfl) (Nat.le_of_ble_eq_true rfl) (Nat.le_of_ble_eq_true rfl) rfl (fun p18 => ?_)
    refine zj_i2s 189 X kd_O_locate_188 rfl ?_
    refine pf_O_51 192 X kd_O_locate_189 rfl ?_
    refine zj_nms (fun s19 => ?_)
    refine zj_goto 258 X kd_O_locate_192 rfl ?_
    exact zj_vret X kd_O_locate_258
  refine zj_tcase 195 X kd_O_locate_52 (by decide) (by decide) rfl rfl (fun _ => ?_) (fun h5 => ?_)
  · refine zj_aload_n 196 2 X kd_O_locate_195 rfl rfl rfl ?_
    refine zj_aload_n 197 2 X kd_O_locate_196 rfl rfl rfl ?_
    refine gf_O_19 200 X kd_O_locate_197 rfl ?_
    refine mc_O_62 203 X kd_O_locate_200 (Nat.le_of_ble_eq_true rfl) (Nat.le_of_ble_eq_true rfl) (Nat.le_of_ble_eq_true rfl) rfl (fun p20 => ?_)
    refine pf_O_51 206 X kd_O_locate_203 rfl ?_
    refine zj_nms (fun s21 => ?_)
    refine zj_goto 258 X kd_O_locate_206 rfl ?_
    exact zj_vret X kd_O_locate_258
  refine zj_tcase 209 X kd_O_locate_52 (by decide) (by decide) rfl rfl (fun _ => ?_) (fun h6 => ?_)
  · refine zj_aload_n 210 2 X kd_O_locate_209 rfl rfl rfl ?_
    refine zj_aload_n 211 2 X kd_O_locate_210 rfl rfl rfl ?_
    refine gf_O_41 214 X kd_O_locate_211 rfl ?_
    refine zj_iconst 215 2 X kd_O_locate_214 ki_2 rfl ?_
    refine zj_icmp_ne 228 218 X kd_O_locate_215 rfl rfl (fun _ => ?_) (fun _ => ?_)
    · refine zj_aload_n 219 2 X kd_O_locate_218 rfl rfl rfl ?_
      refine gf_O_19 222 X kd_O_locate_219 rfl ?_
      refine mc_O_62 225 X kd_O_locate_222 (Nat.le_of_ble_eq_true rfl) (Nat.le_of_ble_eq_true rfl) (Nat.le_of_ble_eq_true rfl) rfl (fun p24 => ?_)
      refine zj_goto 235 X kd_O_locate_225 rfl ?_
      refine zj_loc [] (L2 := []) rfl ?_
      exact j_O_locate_235 X p24.2 p24.1
    · refine zj_aload_n 229 2 X kd_O_locate_228 rfl rfl rfl ?_
      refine gf_O_19 232 X kd_O_locate_229 rfl ?_
      refine mc_O_57 235 X kd_O_locate_232 (Nat.le_of_ble_eq_true rfl) (Nat.le_of_ble_eq_true rfl) (Nat.le_of_ble_eq_true rfl) rfl (fun p22 => ?_)
      refine zj_loc [] (L2 := []) rfl ?_
      exact j_O_locate_235 X p22.2 p22.1
  refine zj_tcase 241 X kd_O_locate_52 (by decide) (by decide) rfl rfl (fun _ => ?_) (fun h7 => ?_)
  · refine zj_aload_n 242 2 X kd_O_locate_241 rfl rfl rfl ?_
    refine zj_iload_n 243 0 X kd_O_locate_242 rfl rfl rfl ?_
    refine zj_aload_n 244 2 X kd_O_locate_243 rfl rfl rfl ?_
    refine gf_O_19 247 X kd_O_locate_244 rfl ?_
    refine mc_O_57 250 X kd_O_locate_247 (Nat.le_of_ble_eq_true rfl) (Nat.le_of_ble_eq_true rfl) (Nat.le_of_ble_eq_true rfl) rfl (fun p25 => ?_)
    refine zj_i2s 251 X kd_O_locate_250 rfl ?_
    refine zj_iadd 252 X kd_O_locate_251 rfl ?_
    refine pf_O_51 255 X kd_O_locate_252 rfl ?_
    refine zj_nms (fun s26 => ?_)
    refine zj_goto 258 X kd_O_locate_255 rfl ?_
    exact zj_vret X kd_O_locate_258
  refine zj_tdef 258 X kd_O_locate_52 (by have h0 := lv_neT (a := 2) h0 rfl; have h1 := lv_neT (a := 3) h1 rfl; have h2 := lv_neT (a := 4) h2 rfl; have h3 := lv_neT (a := 5) h3 rfl; have h4 := lv_neT (a := 6) h4 rfl; have h5 := lv_neT (a := 7) h5 rfl; have h6 := lv_neT (a := 8) h6 rfl; have h7 := lv_neT (a := 9) h7 rfl; omega) rfl ?_
  exact zj_vret X kd_O_locate_258
theorem c_O_locate {l : Launch} {P : ZP} (hV : ZVok (zcV P)) (s0 : ZS)  {z : ZS} (h : f_O_locate s0  = some z) : zMv l y_O_locate b_O_locate 4 none 4 91 (zcV P) s0 [.ref (P.1 8), .ref (P.1 7)] z :=
  zMv_of (by decide +kernel) rfl rfl (Nat.le_of_ble_eq_true rfl) hV (fun _ X => j_O_locate X s0 ) h
theorem kc_P_141 : zCV "FrameMachine$Processor" 141 y_O_locate b_O_locate 4 none 1 := ⟨⟨kw_571, kw_572, kw_573, kw_9, kw_574⟩, by decide +kernel, by decide +kernel, by decide +kernel⟩
theorem mc_P_141 {ρ : Type} {E : ZE} {P : ZP} {A : Nat → Prop} {cc : ByteArray} {nL : Nat} {ret : Option FieldType} {fr lo : Nat} {F : ρ → State → Prop} {pc : Nat} {L : List (Nat × Value)} {rest : List Value} {σ : ZS}  {K : ZS → Option ρ} (q : Nat) (X : ZX E (zcV P) A "FrameMachine$Processor" cc nL ret fr lo) (d : decode cc pc = .ok (.invokevirtual 141, 3)) (hfr : 4 + 1 ≤ fr) (hlo : 8 + (4 + 11) + 91 ≤ lo) (hr : (rest.map fun v => v.category).sum ≤ 8) (hq : pc + 3 = q) (kk : ∀ p : ZS, ZJ E (zcV P) A nL F q L (rest) p (K p)) : ZJ E (zcV P) A nL F pc L (.ref (P.1 7) :: .ref (P.1 8) :: rest) σ ((f_O_locate σ ).bind K) :=
  zj_cVv q 8 8 (As := [.ref (P.1 7)]) (rest := rest) X kc_P_141 hfr hlo (fun p h => c_O_locate (zx_v X) σ  h) rfl rfl rfl hr d hq kk
-- FrameMachine$Instruction.readsOperand()Z
theorem kd_I_readsOperand_0 : decode b_I_readsOperand 0 = .ok (.aload_n 0, 1) := by decide +kernel
theorem kd_I_readsOperand_1 : decode b_I_readsOperand 1 = .ok (.getfield 15, 3) := by decide +kernel
theorem kd_I_readsOperand_4 : decode b_I_readsOperand 4 = .ok (.iconst 1, 1) := by decide +kernel
theorem kd_I_readsOperand_5 : decode b_I_readsOperand 5 = .ok (.if_icmp .eq 21, 3) := by decide +kernel
theorem kd_I_readsOperand_8 : decode b_I_readsOperand 8 = .ok (.aload_n 0, 1) := by decide +kernel
theorem kd_I_readsOperand_9 : decode b_I_readsOperand 9 = .ok (.getfield 15, 3) := by decide +kernel
theorem kd_I_readsOperand_12 : decode b_I_readsOperand 12 = .ok (.bipush 13, 2) := by decide +kernel
theorem kd_I_readsOperand_14 : decode b_I_readsOperand 14 = .ok (.if_icmp .eq 12, 3) := by decide +kernel
theorem kd_I_readsOperand_17 : decode b_I_readsOperand 17 = .ok (.aload_n 0, 1) := by decide +kernel
theorem kd_I_readsOperand_18 : decode b_I_readsOperand 18 = .ok (.getfield 15, 3) := by decide +kernel
theorem kd_I_readsOperand_21 : decode b_I_readsOperand 21 = .ok (.bipush 27, 2) := by decide +kernel
theorem kd_I_readsOperand_23 : decode b_I_readsOperand 23 = .ok (.if_icmp .ne 7, 3) := by decide +kernel
theorem kd_I_readsOperand_26 : decode b_I_readsOperand 26 = .ok (.iconst 1, 1) := by decide +kernel
theorem kd_I_readsOperand_27 : decode b_I_readsOperand 27 = .ok (.goto 4, 3) := by decide +kernel
theorem kd_I_readsOperand_30 : decode b_I_readsOperand 30 = .ok (.iconst 0, 1) := by decide +kernel
theorem kd_I_readsOperand_31 : decode b_I_readsOperand 31 = .ok (.istore_n 1, 1) := by decide +kernel
theorem kd_I_readsOperand_32 : decode b_I_readsOperand 32 = .ok (.aload_n 0, 1) := by decide +kernel
theorem kd_I_readsOperand_33 : decode b_I_readsOperand 33 = .ok (.invokevirtual 34, 3) := by decide +kernel
theorem kd_I_readsOperand_36 : decode b_I_readsOperand 36 = .ok (.ifCond .eq 28, 3) := by decide +kernel
theorem kd_I_readsOperand_39 : decode b_I_readsOperand 39 = .ok (.iload_n 1, 1) := by decide +kernel
theorem kd_I_readsOperand_40 : decode b_I_readsOperand 40 = .ok (.ifCond .ne 24, 3) := by decide +kernel
theorem kd_I_readsOperand_43 : decode b_I_readsOperand 43 = .ok (.getstatic 30, 3) := by decide +kernel
theorem kd_I_readsOperand_46 : decode b_I_readsOperand 46 = .ok (.aload_n 0, 1) := by decide +kernel
theorem kd_I_readsOperand_47 : decode b_I_readsOperand 47 = .ok (.getfield 15, 3) := by decide +kernel
theorem kd_I_readsOperand_50 : decode b_I_readsOperand 50 = .ok (.bipush 31, 2) := by decide +kernel
theorem kd_I_readsOperand_52 : decode b_I_readsOperand 52 = .ok (.iand, 1) := by decide +kernel
theorem kd_I_readsOperand_53 : decode b_I_readsOperand 53 = .ok (.iaload, 1) := by decide +kernel
theorem kd_I_readsOperand_54 : decode b_I_readsOperand 54 = .ok (.sipush 740, 3) := by decide +kernel
theorem kd_I_readsOperand_57 : decode b_I_readsOperand 57 = .ok (.if_icmp .eq 7, 3) := by decide +kernel
theorem kd_I_readsOperand_60 : decode b_I_readsOperand 60 = .ok (.iconst 1, 1) := by decide +kernel
theorem kd_I_readsOperand_61 : decode b_I_readsOperand 61 = .ok (.goto 4, 3) := by decide +kernel
theorem kd_I_readsOperand_64 : decode b_I_readsOperand 64 = .ok (.iconst 0, 1) := by decide +kernel
theorem kd_I_readsOperand_65 : decode b_I_readsOperand 65 = .ok (.ireturn, 1) := by decide +kernel
noncomputable def f_I_readsOperand_31 (s0 : ZS) (t0 : Int32) : Option (Int32 × ZS) :=
  (f_I_hasOperand s0 ).bind fun p1 =>
  if p1.1 = 0 then
    some (0, p1.2)
  else
    if t0 = 0 then
      zs_nm ((p1.2 0 24) &&& 31) fun v2 =>
      if v2 < 0 ∨ 32 ≤ v2.toNatClampNeg then none else
      if (tb_KINDS v2.toNatClampNeg) = 740 then
        some (0, p1.2)
      else
        some (1, p1.2)
    else
      some (0, p1.2)
noncomputable def f_I_readsOperand_26 (s0 : ZS)  : Option (Int32 × ZS) :=
  f_I_readsOperand_31 s0 1
noncomputable def f_I_readsOperand (s0 : ZS)  : Option (Int32 × ZS) :=
  if (s0 0 24) = 1 then
    f_I_readsOperand_26 s0
  else
    if (s0 0 24) = 13 then
      f_I_readsOperand_26 s0
    else
      if (s0 0 24) = 27 then
        f_I_readsOperand_26 s0
      else
        f_I_readsOperand_31 s0 0
theorem j_I_readsOperand_31 {P : ZP} {E : ZE} {A : Nat → Prop} (X : ZX E (zcV P) A "FrameMachine$Instruction" b_I_readsOperand 2 (some .boolean) 1 20) (s0 : ZS) (t0 : Int32) : ZJ E (zcV P) A 2 (zFi E (zcV P) A) 31 [(0, .ref (P.1 7))] [.int t0] s0 (f_I_readsOperand_31 s0 t0) := by
  unfold f_I_readsOperand_31
  refine zj_istore_n 32 [(1, .int t0), (0, .ref (P.1 7))] X kd_I_readsOperand_31 rfl (Nat.le_of_ble_eq_true rfl) rfl rfl ?_
  refine zj_aload_n 33 1 X kd_I_readsOperand_32 rfl rfl rfl ?_
  refine mc_I_34 36 X kd_I_readsOperand_33 (Nat.le_of_ble_eq_true rfl) (Nat.le_of_ble_eq_true rfl) (Nat.le_of_ble_eq_true rfl) rfl (fun p1 => ?_)
  refine zj_if_eq 64 39 X kd_I_readsOperand_36 rfl rfl (fun _ => ?_) (fun _ => ?_)
  · refine zj_iconst 65 0 X kd_I_readsOperand_64 ki_0 rfl ?_
    exact zj_zret X kd_I_readsOperand_65 (Or.inl rfl)
  · refine zj_iload_n 40 0 X kd_I_readsOperand_39 rfl rfl rfl ?_
    refine zj_if_ne 64 43 X kd_I_readsOperand_40 rfl rfl (fun _ => ?_) (fun _ => ?_)
    · refine gs_I_30 46 X kd_I_readsOperand_43 rfl ?_
      refine zj_aload_n 47 1 X kd_I_readsOperand_46 rfl rfl rfl ?_
      refine gf_I_15 50 X kd_I_readsOperand_47 rfl ?_
      refine zj_bipush 52 31 X kd_I_readsOperand_50 kb_31 rfl ?_
      refine zj_iand 53 X kd_I_readsOperand_52 rfl ?_
      refine zj_nmi (fun v2 => ?_)
      refine zj_ng (fun hg => ?_)
      refine at_KINDS 54 X kd_I_readsOperand_53 hg rfl ?_
      refine zj_sipush 57 740 X kd_I_readsOperand_54 ks_740 rfl ?_
      refine zj_icmp_eq 64 60 X kd_I_readsOperand_57 rfl rfl (fun _ => ?_) (fun _ => ?_)
      · refine zj_iconst 65 0 X kd_I_readsOperand_64 ki_0 rfl ?_
        exact zj_zret X kd_I_readsOperand_65 (Or.inl rfl)
      · refine zj_iconst 61 1 X kd_I_readsOperand_60 ki_1 rfl ?_
        refine zj_goto 65 X kd_I_readsOperand_61 rfl ?_
        exact zj_zret X kd_I_readsOperand_65 (Or.inr rfl)
    · refine zj_iconst 65 0 X kd_I_readsOperand_64 ki_0 rfl ?_
      exact zj_zret X kd_I_readsOperand_65 (Or.inl rfl)
theorem j_I_readsOperand_26 {P : ZP} {E : ZE} {A : Nat → Prop} (X : ZX E (zcV P) A "FrameMachine$Instruction" b_I_readsOperand 2 (some .boolean) 1 20) (s0 : ZS)  : ZJ E (zcV P) A 2 (zFi E (zcV P) A) 26 [(0, .ref (P.1 7))] [] s0 (f_I_readsOperand_26 s0) := by
  unfold f_I_readsOperand_26
  refine zj_iconst 27 1 X kd_I_readsOperand_26 ki_1 rfl ?_
  refine zj_goto 31 X kd_I_readsOperand_27 rfl ?_
  exact j_I_readsOperand_31 X s0 1
theorem j_I_readsOperand {P : ZP} {E : ZE} {A : Nat → Prop} (X : ZX E (zcV P) A "FrameMachine$Instruction" b_I_readsOperand 2 (some .boolean) 1 20) (s0 : ZS)  : ZJ E (zcV P) A 2 (zFi E (zcV P) A) 0 [(0, .ref (P.1 7))] [] s0 (f_I_readsOperand s0) := by
  unfold f_I_readsOperand
  refine zj_aload_n 1 0 X kd_I_readsOperand_0 rfl rfl rfl ?_
  refine gf_I_15 4 X kd_I_readsOperand_1 rfl ?_
  refine zj_iconst 5 1 X kd_I_readsOperand_4 ki_1 rfl ?_
  refine zj_icmp_eq 26 8 X kd_I_readsOperand_5 rfl rfl (fun _ => ?_) (fun _ => ?_)
  · exact j_I_readsOperand_26 X s0
  · refine zj_aload_n 9 0 X kd_I_readsOperand_8 rfl rfl rfl ?_
    refine gf_I_15 12 X kd_I_readsOperand_9 rfl ?_
    refine zj_bipush 14 13 X kd_I_readsOperand_12 kb_13 rfl ?_
    refine zj_icmp_eq 26 17 X kd_I_readsOperand_14 rfl rfl (fun _ => ?_) (fun _ => ?_)
    · exact j_I_readsOperand_26 X s0
    · refine zj_aload_n 18 0 X kd_I_readsOperand_17 rfl rfl rfl ?_
      refine gf_I_15 21 X kd_I_readsOperand_18 rfl ?_
      refine zj_bipush 23 27 X kd_I_readsOperand_21 kb_27 rfl ?_
      refine zj_icmp_ne 30 26 X kd_I_readsOperand_23 rfl rfl (fun _ => ?_) (fun _ => ?_)
      · exact j_I_readsOperand_26 X s0
      · refine zj_iconst 31 0 X kd_I_readsOperand_30 ki_0 rfl ?_
        exact j_I_readsOperand_31 X s0 0
theorem c_I_readsOperand {l : Launch} {P : ZP} (hV : ZVok (zcV P)) (s0 : ZS)  {z : Int32 × ZS} (h : f_I_readsOperand s0  = some z) : zMi l y_I_readsOperand b_I_readsOperand 2 (some .boolean) 1 20 (zcV P) s0 [.ref (P.1 7)] z :=
  zMi_of (by decide +kernel) rfl rfl (Nat.le_of_ble_eq_true rfl) hV (fun _ X => j_I_readsOperand X s0 ) h
theorem kc_P_145 : zCV "FrameMachine$Processor" 145 y_I_readsOperand b_I_readsOperand 2 (some .boolean) 0 := ⟨⟨kw_586, kw_587, kw_588, kw_8, kw_589⟩, by decide +kernel, by decide +kernel, by decide +kernel⟩
theorem mc_P_145 {ρ : Type} {E : ZE} {P : ZP} {A : Nat → Prop} {cc : ByteArray} {nL : Nat} {ret : Option FieldType} {fr lo : Nat} {F : ρ → State → Prop} {pc : Nat} {L : List (Nat × Value)} {rest : List Value} {σ : ZS}  {K : Int32 × ZS → Option ρ} (q : Nat) (X : ZX E (zcV P) A "FrameMachine$Processor" cc nL ret fr lo) (d : decode cc pc = .ok (.invokevirtual 145, 3)) (hfr : 1 + 1 ≤ fr) (hlo : 8 + (2 + 11) + 20 ≤ lo) (hr : (rest.map fun v => v.category).sum ≤ 8) (hq : pc + 3 = q) (kk : ∀ p : Int32 × ZS, ZJ E (zcV P) A nL F q L (.int p.1 :: rest) p.2 (K p)) : ZJ E (zcV P) A nL F pc L (.ref (P.1 7) :: rest) σ ((f_I_readsOperand σ ).bind K) :=
  zj_cVi q 7 7 (As := []) (rest := rest) X kc_P_145 hfr hlo (fun p h => c_I_readsOperand (zx_v X) σ  h) rfl rfl rfl hr d hq kk
-- FrameMachine$Operand.load()V
theorem kd_O_load_0 : decode b_O_load 0 = .ok (.aload_n 0, 1) := by decide +kernel
theorem kd_O_load_1 : decode b_O_load 1 = .ok (.getfield 29, 3) := by decide +kernel
theorem kd_O_load_4 : decode b_O_load 4 = .ok (.lookupswitch 83 #[(0, 36), (1, 58), (8, 80)], 36) := by decide +kernel
theorem kd_O_load_40 : decode b_O_load 40 = .ok (.aload_n 0, 1) := by decide +kernel
theorem kd_O_load_41 : decode b_O_load 41 = .ok (.aload_n 0, 1) := by decide +kernel
theorem kd_O_load_42 : decode b_O_load 42 = .ok (.getfield 15, 3) := by decide +kernel
theorem kd_O_load_45 : decode b_O_load 45 = .ok (.getfield 68, 3) := by decide +kernel
theorem kd_O_load_48 : decode b_O_load 48 = .ok (.aload_n 0, 1) := by decide +kernel
theorem kd_O_load_49 : decode b_O_load 49 = .ok (.getfield 35, 3) := by decide +kernel
theorem kd_O_load_52 : decode b_O_load 52 = .ok (.bipush 7, 2) := by decide +kernel
theorem kd_O_load_54 : decode b_O_load 54 = .ok (.iand, 1) := by decide +kernel
theorem kd_O_load_55 : decode b_O_load 55 = .ok (.iaload, 1) := by decide +kernel
theorem kd_O_load_56 : decode b_O_load 56 = .ok (.putfield 65, 3) := by decide +kernel
theorem kd_O_load_59 : decode b_O_load 59 = .ok (.goto 47, 3) := by decide +kernel
theorem kd_O_load_62 : decode b_O_load 62 = .ok (.aload_n 0, 1) := by decide +kernel
theorem kd_O_load_63 : decode b_O_load 63 = .ok (.aload_n 0, 1) := by decide +kernel
theorem kd_O_load_64 : decode b_O_load 64 = .ok (.getfield 15, 3) := by decide +kernel
theorem kd_O_load_67 : decode b_O_load 67 = .ok (.getfield 42, 3) := by decide +kernel
theorem kd_O_load_70 : decode b_O_load 70 = .ok (.aload_n 0, 1) := by decide +kernel
theorem kd_O_load_71 : decode b_O_load 71 = .ok (.getfield 35, 3) := by decide +kernel
theorem kd_O_load_74 : decode b_O_load 74 = .ok (.bipush 7, 2) := by decide +kernel
theorem kd_O_load_76 : decode b_O_load 76 = .ok (.iand, 1) := by decide +kernel
theorem kd_O_load_77 : decode b_O_load 77 = .ok (.iaload, 1) := by decide +kernel
theorem kd_O_load_78 : decode b_O_load 78 = .ok (.putfield 65, 3) := by decide +kernel
theorem kd_O_load_81 : decode b_O_load 81 = .ok (.goto 25, 3) := by decide +kernel
theorem kd_O_load_84 : decode b_O_load 84 = .ok (.goto 22, 3) := by decide +kernel
theorem kd_O_load_87 : decode b_O_load 87 = .ok (.aload_n 0, 1) := by decide +kernel
theorem kd_O_load_88 : decode b_O_load 88 = .ok (.aload_n 0, 1) := by decide +kernel
theorem kd_O_load_89 : decode b_O_load 89 = .ok (.getfield 9, 3) := by decide +kernel
theorem kd_O_load_92 : decode b_O_load 92 = .ok (.aload_n 0, 1) := by decide +kernel
theorem kd_O_load_93 : decode b_O_load 93 = .ok (.getfield 51, 3) := by decide +kernel
theorem kd_O_load_96 : decode b_O_load 96 = .ok (.aload_n 0, 1) := by decide +kernel
theorem kd_O_load_97 : decode b_O_load 97 = .ok (.getfield 41, 3) := by decide +kernel
theorem kd_O_load_100 : decode b_O_load 100 = .ok (.invokevirtual 71, 3) := by decide +kernel
theorem kd_O_load_103 : decode b_O_load 103 = .ok (.putfield 65, 3) := by decide +kernel
theorem kd_O_load_106 : decode b_O_load 106 = .ok (.aload_n 0, 1) := by decide +kernel
theorem kd_O_load_107 : decode b_O_load 107 = .ok (.dup, 1) := by decide +kernel
theorem kd_O_load_108 : decode b_O_load 108 = .ok (.getfield 65, 3) := by decide +kernel
theorem kd_O_load_111 : decode b_O_load 111 = .ok (.aload_n 0, 1) := by decide +kernel
theorem kd_O_load_112 : decode b_O_load 112 = .ok (.getfield 41, 3) := by decide +kernel
theorem kd_O_load_115 : decode b_O_load 115 = .ok (.invokestatic 77, 3) := by decide +kernel
theorem kd_O_load_118 : decode b_O_load 118 = .ok (.iand, 1) := by decide +kernel
theorem kd_O_load_119 : decode b_O_load 119 = .ok (.putfield 65, 3) := by decide +kernel
theorem kd_O_load_122 : decode b_O_load 122 = .ok (.return_, 1) := by decide +kernel
noncomputable def f_O_load_106 (s0 : ZS)  : Option (ZS) :=
  (f_F_maskOf s0 (s0 0 31)).bind fun p4 =>
  zs_nm (zs_up p4.2 0 33 ((s0 0 33) &&& p4.1)) fun s5 =>
  some s5
noncomputable def f_O_load (s0 : ZS)  : Option (ZS) :=
  zs_nm (s0 0 29) fun v1 =>
  if v1 = 0 then
    zs_nm ((s0 0 30) &&& 7) fun v2 =>
    if v2 < 0 ∨ 8 ≤ v2.toNatClampNeg then none else
    zs_nm (zs_up s0 0 33 (s0 2 v2.toNatClampNeg)) fun s3 =>
    f_O_load_106 s3
  else if v1 = 1 then
    zs_nm ((s0 0 30) &&& 7) fun v6 =>
    if v6 < 0 ∨ 8 ≤ v6.toNatClampNeg then none else
    zs_nm (zs_up s0 0 33 (s0 3 v6.toNatClampNeg)) fun s7 =>
    f_O_load_106 s7
  else if v1 = 8 then
    f_O_load_106 s0
  else 
    (f_B_read s0 (s0 0 32) (s0 0 31)).bind fun p8 =>
    zs_nm (zs_up p8.2 0 33 p8.1) fun s9 =>
    f_O_load_106 s9
theorem j_O_load_106 {P : ZP} {E : ZE} {A : Nat → Prop} (X : ZX E (zcV P) A "FrameMachine$Operand" b_O_load 1 none 2 49) (s0 : ZS)  : ZJ E (zcV P) A 1 (zFv E (zcV P) A) 106 [(0, .ref (P.1 8))] [] s0 (f_O_load_106 s0) := by
  unfold f_O_load_106
  refine zj_aload_n 107 0 X kd_O_load_106 rfl rfl rfl ?_
  refine zj_dup 108 X kd_O_load_107 rfl rfl ?_
  refine gf_O_65 111 X kd_O_load_108 rfl ?_
  refine zj_aload_n 112 0 X kd_O_load_111 rfl rfl rfl ?_
  refine gf_O_41 115 X kd_O_load_112 rfl ?_
  refine mc_O_77 118 X kd_O_load_115 (Nat.le_of_ble_eq_true rfl) (Nat.le_of_ble_eq_true rfl) (Nat.le_of_ble_eq_true rfl) rfl (fun p4 => ?_)
  refine zj_iand 119 X kd_O_load_118 rfl ?_
  refine pf_O_65 122 X kd_O_load_119 rfl ?_
  refine zj_nms (fun s5 => ?_)
  exact zj_vret X kd_O_load_122
theorem j_O_load {P : ZP} {E : ZE} {A : Nat → Prop} (X : ZX E (zcV P) A "FrameMachine$Operand" b_O_load 1 none 2 49) (s0 : ZS)  : ZJ E (zcV P) A 1 (zFv E (zcV P) A) 0 [(0, .ref (P.1 8))] [] s0 (f_O_load s0) := by
  unfold f_O_load
  refine zj_aload_n 1 0 X kd_O_load_0 rfl rfl rfl ?_
  refine gf_O_29 4 X kd_O_load_1 rfl ?_
  refine zj_nmi (fun v1 => ?_)
  refine zj_lcase 40 X kd_O_load_4 rfl rfl rfl (fun _ => ?_) (fun h0 => ?_)
  · refine zj_aload_n 41 0 X kd_O_load_40 rfl rfl rfl ?_
    refine zj_aload_n 42 0 X kd_O_load_41 rfl rfl rfl ?_
    refine gf_O_15 45 X kd_O_load_42 rfl ?_
    refine gf_O_68 48 X kd_O_load_45 rfl ?_
    refine zj_aload_n 49 0 X kd_O_load_48 rfl rfl rfl ?_
    refine gf_O_35 52 X kd_O_load_49 rfl ?_
    refine zj_bipush 54 7 X kd_O_load_52 kb_7 rfl ?_
    refine zj_iand 55 X kd_O_load_54 rfl ?_
    refine zj_nmi (fun v2 => ?_)
    refine zj_ng (fun hg => ?_)
    refine al_C_2 56 X kd_O_load_55 hg rfl ?_
    refine pf_O_65 59 X kd_O_load_56 rfl ?_
    refine zj_nms (fun s3 => ?_)
    refine zj_goto 106 X kd_O_load_59 rfl ?_
    exact j_O_load_106 X s3
  refine zj_lcase 62 X kd_O_load_4 rfl rfl rfl (fun _ => ?_) (fun h1 => ?_)
  · refine zj_aload_n 63 0 X kd_O_load_62 rfl rfl rfl ?_
    refine zj_aload_n 64 0 X kd_O_load_63 rfl rfl rfl ?_
    refine gf_O_15 67 X kd_O_load_64 rfl ?_
    refine gf_O_42 70 X kd_O_load_67 rfl ?_
    refine zj_aload_n 71 0 X kd_O_load_70 rfl rfl rfl ?_
    refine gf_O_35 74 X kd_O_load_71 rfl ?_
    refine zj_bipush 76 7 X kd_O_load_74 kb_7 rfl ?_
    refine zj_iand 77 X kd_O_load_76 rfl ?_
    refine zj_nmi (fun v6 => ?_)
    refine zj_ng (fun hg => ?_)
    refine al_C_3 78 X kd_O_load_77 hg rfl ?_
    refine pf_O_65 81 X kd_O_load_78 rfl ?_
    refine zj_nms (fun s7 => ?_)
    refine zj_goto 106 X kd_O_load_81 rfl ?_
    exact j_O_load_106 X s7
  refine zj_lcase 84 X kd_O_load_4 rfl rfl rfl (fun _ => ?_) (fun h2 => ?_)
  · refine zj_goto 106 X kd_O_load_84 rfl ?_
    exact j_O_load_106 X s0
  refine zj_ldef 87 X kd_O_load_4 rfl ((lv_osw h0 rfl).trans ((lv_osw h1 rfl).trans ((lv_osw h2 rfl).trans rfl))) rfl ?_
  refine zj_aload_n 88 0 X kd_O_load_87 rfl rfl rfl ?_
  refine zj_aload_n 89 0 X kd_O_load_88 rfl rfl rfl ?_
  refine gf_O_9 92 X kd_O_load_89 rfl ?_
  refine zj_aload_n 93 0 X kd_O_load_92 rfl rfl rfl ?_
  refine gf_O_51 96 X kd_O_load_93 rfl ?_
  refine zj_aload_n 97 0 X kd_O_load_96 rfl rfl rfl ?_
  refine gf_O_41 100 X kd_O_load_97 rfl ?_
  refine mc_O_71 103 X kd_O_load_100 (Nat.le_of_ble_eq_true rfl) (Nat.le_of_ble_eq_true rfl) (Nat.le_of_ble_eq_true rfl) rfl (fun p8 => ?_)
  refine pf_O_65 106 X kd_O_load_103 rfl ?_
  refine zj_nms (fun s9 => ?_)
  exact j_O_load_106 X s9
theorem c_O_load {l : Launch} {P : ZP} (hV : ZVok (zcV P)) (s0 : ZS)  {z : ZS} (h : f_O_load s0  = some z) : zMv l y_O_load b_O_load 1 none 2 49 (zcV P) s0 [.ref (P.1 8)] z :=
  zMv_of (by decide +kernel) rfl rfl (Nat.le_of_ble_eq_true rfl) hV (fun _ X => j_O_load X s0 ) h
theorem kc_P_148 : zCV "FrameMachine$Processor" 148 y_O_load b_O_load 1 none 0 := ⟨⟨kw_590, kw_591, kw_592, kw_9, kw_593⟩, by decide +kernel, by decide +kernel, by decide +kernel⟩
theorem mc_P_148 {ρ : Type} {E : ZE} {P : ZP} {A : Nat → Prop} {cc : ByteArray} {nL : Nat} {ret : Option FieldType} {fr lo : Nat} {F : ρ → State → Prop} {pc : Nat} {L : List (Nat × Value)} {rest : List Value} {σ : ZS}  {K : ZS → Option ρ} (q : Nat) (X : ZX E (zcV P) A "FrameMachine$Processor" cc nL ret fr lo) (d : decode cc pc = .ok (.invokevirtual 148, 3)) (hfr : 2 + 1 ≤ fr) (hlo : 8 + (1 + 11) + 49 ≤ lo) (hr : (rest.map fun v => v.category).sum ≤ 8) (hq : pc + 3 = q) (kk : ∀ p : ZS, ZJ E (zcV P) A nL F q L (rest) p (K p)) : ZJ E (zcV P) A nL F pc L (.ref (P.1 8) :: rest) σ ((f_O_load σ ).bind K) :=
  zj_cVv q 8 8 (As := []) (rest := rest) X kc_P_148 hfr hlo (fun p h => c_O_load (zx_v X) σ  h) rfl rfl rfl hr d hq kk
-- FrameMachine$Processor.takeOperand()V
theorem kd_P_takeOperand_0 : decode b_P_takeOperand 0 = .ok (.aload_n 0, 1) := by decide +kernel
theorem kd_P_takeOperand_1 : decode b_P_takeOperand 1 = .ok (.getfield 39, 3) := by decide +kernel
theorem kd_P_takeOperand_4 : decode b_P_takeOperand 4 = .ok (.aload_n 0, 1) := by decide +kernel
theorem kd_P_takeOperand_5 : decode b_P_takeOperand 5 = .ok (.getfield 12, 3) := by decide +kernel
theorem kd_P_takeOperand_8 : decode b_P_takeOperand 8 = .ok (.invokevirtual 141, 3) := by decide +kernel
theorem kd_P_takeOperand_11 : decode b_P_takeOperand 11 = .ok (.aload_n 0, 1) := by decide +kernel
theorem kd_P_takeOperand_12 : decode b_P_takeOperand 12 = .ok (.getfield 18, 3) := by decide +kernel
theorem kd_P_takeOperand_15 : decode b_P_takeOperand 15 = .ok (.getfield 117, 3) := by decide +kernel
theorem kd_P_takeOperand_18 : decode b_P_takeOperand 18 = .ok (.ifCond .ne 20, 3) := by decide +kernel
theorem kd_P_takeOperand_21 : decode b_P_takeOperand 21 = .ok (.aload_n 0, 1) := by decide +kernel
theorem kd_P_takeOperand_22 : decode b_P_takeOperand 22 = .ok (.getfield 12, 3) := by decide +kernel
theorem kd_P_takeOperand_25 : decode b_P_takeOperand 25 = .ok (.invokevirtual 145, 3) := by decide +kernel
theorem kd_P_takeOperand_28 : decode b_P_takeOperand 28 = .ok (.ifCond .eq 10, 3) := by decide +kernel
theorem kd_P_takeOperand_31 : decode b_P_takeOperand 31 = .ok (.aload_n 0, 1) := by decide +kernel
theorem kd_P_takeOperand_32 : decode b_P_takeOperand 32 = .ok (.getfield 39, 3) := by decide +kernel
theorem kd_P_takeOperand_35 : decode b_P_takeOperand 35 = .ok (.invokevirtual 148, 3) := by decide +kernel
theorem kd_P_takeOperand_38 : decode b_P_takeOperand 38 = .ok (.return_, 1) := by decide +kernel
noncomputable def f_P_takeOperand (s0 : ZS)  : Option (ZS) :=
  (f_O_locate s0 ).bind fun s1 =>
  if (s1 0 10) = 0 then
    (f_I_readsOperand s1 ).bind fun p2 =>
    if p2.1 = 0 then
      some p2.2
    else
      (f_O_load p2.2 ).bind fun s3 =>
      some s3
  else
    some s1
theorem j_P_takeOperand {P : ZP} {E : ZE} {A : Nat → Prop} (X : ZX E (zcV P) A "FrameMachine$Processor" b_P_takeOperand 1 none 5 114) (s0 : ZS)  : ZJ E (zcV P) A 1 (zFv E (zcV P) A) 0 [(0, .ref (P.1 6))] [] s0 (f_P_takeOperand s0) := by
  unfold f_P_takeOperand
  refine zj_aload_n 1 0 X kd_P_takeOperand_0 rfl rfl rfl ?_
  refine gf_P_39 4 X kd_P_takeOperand_1 rfl ?_
  refine zj_aload_n 5 0 X kd_P_takeOperand_4 rfl rfl rfl ?_
  refine gf_P_12 8 X kd_P_takeOperand_5 rfl ?_
  refine mc_P_141 11 X kd_P_takeOperand_8 (Nat.le_of_ble_eq_true rfl) (Nat.le_of_ble_eq_true rfl) (Nat.le_of_ble_eq_true rfl) rfl (fun s1 => ?_)
  refine zj_aload_n 12 0 X kd_P_takeOperand_11 rfl rfl rfl ?_
  refine gf_P_18 15 X kd_P_takeOperand_12 rfl ?_
  refine gf_P_117 18 X kd_P_takeOperand_15 rfl ?_
  refine zj_if_ne 38 21 X kd_P_takeOperand_18 rfl rfl (fun _ => ?_) (fun _ => ?_)
  · refine zj_aload_n 22 0 X kd_P_takeOperand_21 rfl rfl rfl ?_
    refine gf_P_12 25 X kd_P_takeOperand_22 rfl ?_
    refine mc_P_145 28 X kd_P_takeOperand_25 (Nat.le_of_ble_eq_true rfl) (Nat.le_of_ble_eq_true rfl) (Nat.le_of_ble_eq_true rfl) rfl (fun p2 => ?_)
    refine zj_if_eq 38 31 X kd_P_takeOperand_28 rfl rfl (fun _ => ?_) (fun _ => ?_)
    · exact zj_vret X kd_P_takeOperand_38
    · refine zj_aload_n 32 0 X kd_P_takeOperand_31 rfl rfl rfl ?_
      refine gf_P_39 35 X kd_P_takeOperand_32 rfl ?_
      refine mc_P_148 38 X kd_P_takeOperand_35 (Nat.le_of_ble_eq_true rfl) (Nat.le_of_ble_eq_true rfl) (Nat.le_of_ble_eq_true rfl) rfl (fun s3 => ?_)
      exact zj_vret X kd_P_takeOperand_38
  · exact zj_vret X kd_P_takeOperand_38
theorem c_P_takeOperand {l : Launch} {P : ZP} (hV : ZVok (zcV P)) (s0 : ZS)  {z : ZS} (h : f_P_takeOperand s0  = some z) : zMv l y_P_takeOperand b_P_takeOperand 1 none 5 114 (zcV P) s0 [.ref (P.1 6)] z :=
  zMv_of (by decide +kernel) rfl rfl (Nat.le_of_ble_eq_true rfl) hV (fun _ X => j_P_takeOperand X s0 ) h
theorem kc_P_107 : zCV "FrameMachine$Processor" 107 y_P_takeOperand b_P_takeOperand 1 none 0 := ⟨⟨kw_567, kw_569, ksel_9, kw_7, kw_570⟩, by decide +kernel, by decide +kernel, by decide +kernel⟩
theorem mc_P_107 {ρ : Type} {E : ZE} {P : ZP} {A : Nat → Prop} {cc : ByteArray} {nL : Nat} {ret : Option FieldType} {fr lo : Nat} {F : ρ → State → Prop} {pc : Nat} {L : List (Nat × Value)} {rest : List Value} {σ : ZS}  {K : ZS → Option ρ} (q : Nat) (X : ZX E (zcV P) A "FrameMachine$Processor" cc nL ret fr lo) (d : decode cc pc = .ok (.invokevirtual 107, 3)) (hfr : 5 + 1 ≤ fr) (hlo : 8 + (1 + 11) + 114 ≤ lo) (hr : (rest.map fun v => v.category).sum ≤ 8) (hq : pc + 3 = q) (kk : ∀ p : ZS, ZJ E (zcV P) A nL F q L (rest) p (K p)) : ZJ E (zcV P) A nL F pc L (.ref (P.1 6) :: rest) σ ((f_P_takeOperand σ ).bind K) :=
  zj_cVv q 6 6 (As := []) (rest := rest) X kc_P_107 hfr hlo (fun p h => c_P_takeOperand (zx_v X) σ  h) rfl rfl rfl hr d hq kk
-- FrameMachine$Processor.step()Z
theorem kd_P_step_0 : decode b_P_step 0 = .ok (.aload_n 0, 1) := by decide +kernel
theorem kd_P_step_1 : decode b_P_step 1 = .ok (.dup, 1) := by decide +kernel
theorem kd_P_step_2 : decode b_P_step 2 = .ok (.getfield 52, 3) := by decide +kernel
theorem kd_P_step_5 : decode b_P_step 5 = .ok (.iconst 1, 1) := by decide +kernel
theorem kd_P_step_6 : decode b_P_step 6 = .ok (.iadd, 1) := by decide +kernel
theorem kd_P_step_7 : decode b_P_step 7 = .ok (.putfield 52, 3) := by decide +kernel
theorem kd_P_step_10 : decode b_P_step 10 = .ok (.aload_n 0, 1) := by decide +kernel
theorem kd_P_step_11 : decode b_P_step 11 = .ok (.getfield 30, 3) := by decide +kernel
theorem kd_P_step_14 : decode b_P_step 14 = .ok (.getfield 56, 3) := by decide +kernel
theorem kd_P_step_17 : decode b_P_step 17 = .ok (.ifCond .eq 5, 3) := by decide +kernel
theorem kd_P_step_20 : decode b_P_step 20 = .ok (.iconst 0, 1) := by decide +kernel
theorem kd_P_step_21 : decode b_P_step 21 = .ok (.ireturn, 1) := by decide +kernel
theorem kd_P_step_22 : decode b_P_step 22 = .ok (.aload_n 0, 1) := by decide +kernel
theorem kd_P_step_23 : decode b_P_step 23 = .ok (.getfield 18, 3) := by decide +kernel
theorem kd_P_step_26 : decode b_P_step 26 = .ok (.getfield 62, 3) := by decide +kernel
theorem kd_P_step_29 : decode b_P_step 29 = .ok (.invokevirtual 68, 3) := by decide +kernel
theorem kd_P_step_32 : decode b_P_step 32 = .ok (.aload_n 0, 1) := by decide +kernel
theorem kd_P_step_33 : decode b_P_step 33 = .ok (.getfield 18, 3) := by decide +kernel
theorem kd_P_step_36 : decode b_P_step 36 = .ok (.getfield 62, 3) := by decide +kernel
theorem kd_P_step_39 : decode b_P_step 39 = .ok (.invokevirtual 73, 3) := by decide +kernel
theorem kd_P_step_42 : decode b_P_step 42 = .ok (.istore_n 1, 1) := by decide +kernel
theorem kd_P_step_43 : decode b_P_step 43 = .ok (.iload_n 1, 1) := by decide +kernel
theorem kd_P_step_44 : decode b_P_step 44 = .ok (.aload_n 0, 1) := by decide +kernel
theorem kd_P_step_45 : decode b_P_step 45 = .ok (.getfield 22, 3) := by decide +kernel
theorem kd_P_step_48 : decode b_P_step 48 = .ok (.invokevirtual 77, 3) := by decide +kernel
theorem kd_P_step_51 : decode b_P_step 51 = .ok (.if_icmp .le 29, 3) := by decide +kernel
theorem kd_P_step_54 : decode b_P_step 54 = .ok (.aload_n 0, 1) := by decide +kernel
theorem kd_P_step_55 : decode b_P_step 55 = .ok (.iconst 0, 1) := by decide +kernel
theorem kd_P_step_56 : decode b_P_step 56 = .ok (.putfield 82, 3) := by decide +kernel
theorem kd_P_step_59 : decode b_P_step 59 = .ok (.aload_n 0, 1) := by decide +kernel
theorem kd_P_step_60 : decode b_P_step 60 = .ok (.getfield 30, 3) := by decide +kernel
theorem kd_P_step_63 : decode b_P_step 63 = .ok (.bipush 24, 2) := by decide +kernel
theorem kd_P_step_65 : decode b_P_step 65 = .ok (.iload_n 1, 1) := by decide +kernel
theorem kd_P_step_66 : decode b_P_step 66 = .ok (.iadd, 1) := by decide +kernel
theorem kd_P_step_67 : decode b_P_step 67 = .ok (.aload_n 0, 1) := by decide +kernel
theorem kd_P_step_68 : decode b_P_step 68 = .ok (.getfield 22, 3) := by decide +kernel
theorem kd_P_step_71 : decode b_P_step 71 = .ok (.getfield 85, 3) := by decide +kernel
theorem kd_P_step_74 : decode b_P_step 74 = .ok (.iconst 0, 1) := by decide +kernel
theorem kd_P_step_75 : decode b_P_step 75 = .ok (.invokevirtual 88, 3) := by decide +kernel
theorem kd_P_step_78 : decode b_P_step 78 = .ok (.iconst 1, 1) := by decide +kernel
theorem kd_P_step_79 : decode b_P_step 79 = .ok (.ireturn, 1) := by decide +kernel
theorem kd_P_step_80 : decode b_P_step 80 = .ok (.aload_n 0, 1) := by decide +kernel
theorem kd_P_step_81 : decode b_P_step 81 = .ok (.getfield 82, 3) := by decide +kernel
theorem kd_P_step_84 : decode b_P_step 84 = .ok (.ifCond .eq 5, 3) := by decide +kernel
theorem kd_P_step_87 : decode b_P_step 87 = .ok (.iconst 0, 1) := by decide +kernel
theorem kd_P_step_88 : decode b_P_step 88 = .ok (.ireturn, 1) := by decide +kernel
theorem kd_P_step_89 : decode b_P_step 89 = .ok (.aload_n 0, 1) := by decide +kernel
theorem kd_P_step_90 : decode b_P_step 90 = .ok (.getfield 22, 3) := by decide +kernel
theorem kd_P_step_93 : decode b_P_step 93 = .ok (.ldc 92, 2) := by decide +kernel
theorem kd_P_step_95 : decode b_P_step 95 = .ok (.invokevirtual 93, 3) := by decide +kernel
theorem kd_P_step_98 : decode b_P_step 98 = .ok (.istore_n 2, 1) := by decide +kernel
theorem kd_P_step_99 : decode b_P_step 99 = .ok (.aload_n 0, 1) := by decide +kernel
theorem kd_P_step_100 : decode b_P_step 100 = .ok (.invokevirtual 97, 3) := by decide +kernel
theorem kd_P_step_103 : decode b_P_step 103 = .ok (.aload_n 0, 1) := by decide +kernel
theorem kd_P_step_104 : decode b_P_step 104 = .ok (.invokevirtual 100, 3) := by decide +kernel
theorem kd_P_step_107 : decode b_P_step 107 = .ok (.ifCond .eq 17, 3) := by decide +kernel
theorem kd_P_step_110 : decode b_P_step 110 = .ok (.aload_n 0, 1) := by decide +kernel
theorem kd_P_step_111 : decode b_P_step 111 = .ok (.getfield 12, 3) := by decide +kernel
theorem kd_P_step_114 : decode b_P_step 114 = .ok (.invokevirtual 104, 3) := by decide +kernel
theorem kd_P_step_117 : decode b_P_step 117 = .ok (.ifCond .eq 7, 3) := by decide +kernel
theorem kd_P_step_120 : decode b_P_step 120 = .ok (.aload_n 0, 1) := by decide +kernel
theorem kd_P_step_121 : decode b_P_step 121 = .ok (.invokevirtual 107, 3) := by decide +kernel
theorem kd_P_step_124 : decode b_P_step 124 = .ok (.aload_n 0, 1) := by decide +kernel
theorem kd_P_step_125 : decode b_P_step 125 = .ok (.invokevirtual 100, 3) := by decide +kernel
theorem kd_P_step_128 : decode b_P_step 128 = .ok (.ifCond .eq 7, 3) := by decide +kernel
theorem kd_P_step_131 : decode b_P_step 131 = .ok (.aload_n 0, 1) := by decide +kernel
theorem kd_P_step_132 : decode b_P_step 132 = .ok (.invokevirtual 110, 3) := by decide +kernel
theorem kd_P_step_135 : decode b_P_step 135 = .ok (.aload_n 0, 1) := by decide +kernel
theorem kd_P_step_136 : decode b_P_step 136 = .ok (.iload_n 2, 1) := by decide +kernel
theorem kd_P_step_137 : decode b_P_step 137 = .ok (.invokevirtual 113, 3) := by decide +kernel
theorem kd_P_step_140 : decode b_P_step 140 = .ok (.iconst 1, 1) := by decide +kernel
theorem kd_P_step_141 : decode b_P_step 141 = .ok (.ireturn, 1) := by decide +kernel
noncomputable def f_P_step_135 (s0 : ZS) (l2 : Int32) : Option (Int32 × ZS) :=
  (f_P_finish s0 l2).bind fun s9 =>
  some (1, s9)
noncomputable def f_P_step_124 (s0 : ZS) (l2 : Int32) : Option (Int32 × ZS) :=
  (f_P_goesOn s0 ).bind fun p8 =>
  if p8.1 = 0 then
    f_P_step_135 p8.2 l2
  else
    (f_P_execute p8.2 ).bind fun s10 =>
    f_P_step_135 s10 l2
noncomputable def f_P_step (s0 : ZS)  : Option (Int32 × ZS) :=
  zs_nm (zs_up s0 0 19 ((s0 0 19) + 1)) fun s1 =>
  if (s1 0 18) = 0 then
    (f_D_step s1 ).bind fun s2 =>
    (f_D_level s2 ).bind fun p3 =>
    (f_G_levelMask p3.2 ).bind fun p4 =>
    if p3.1 ≤ p4.1 then
      if (p4.2 0 20) = 0 then
        (f_G_has p4.2 32768).bind fun p5 =>
        (f_P_begin p5.2 ).bind fun s6 =>
        (f_P_goesOn s6 ).bind fun p7 =>
        if p7.1 = 0 then
          f_P_step_124 p7.2 p5.1
        else
          (f_I_hasOperand p7.2 ).bind fun p11 =>
          if p11.1 = 0 then
            f_P_step_124 p11.2 p5.1
          else
            (f_P_takeOperand p11.2 ).bind fun s12 =>
            f_P_step_124 s12 p5.1
      else
        some (0, p4.2)
    else
      zs_nm (zs_up p4.2 0 20 0) fun s13 =>
      (f_E_raise s13 (24 + p3.1) (s13 0 14) 0).bind fun s14 =>
      some (1, s14)
  else
    some (0, s1)
theorem j_P_step_135 {P : ZP} {E : ZE} {A : Nat → Prop} (X : ZX E (zcV P) A "FrameMachine$Processor" b_P_step 3 (some .boolean) 6 146) (s0 : ZS) (l2 : Int32) : ZJ E (zcV P) A 3 (zFi E (zcV P) A) 135 [(0, .ref (P.1 6)), (2, .int l2)] [] s0 (f_P_step_135 s0 l2) := by
  unfold f_P_step_135
  refine zj_aload_n 136 0 X kd_P_step_135 rfl rfl rfl ?_
  refine zj_iload_n 137 1 X kd_P_step_136 rfl rfl rfl ?_
  refine mc_P_113 140 X kd_P_step_137 (Nat.le_of_ble_eq_true rfl) (Nat.le_of_ble_eq_true rfl) (Nat.le_of_ble_eq_true rfl) rfl (fun s9 => ?_)
  refine zj_iconst 141 1 X kd_P_step_140 ki_1 rfl ?_
  exact zj_zret X kd_P_step_141 (Or.inr rfl)
theorem j_P_step_124 {P : ZP} {E : ZE} {A : Nat → Prop} (X : ZX E (zcV P) A "FrameMachine$Processor" b_P_step 3 (some .boolean) 6 146) (s0 : ZS) (l2 : Int32) : ZJ E (zcV P) A 3 (zFi E (zcV P) A) 124 [(0, .ref (P.1 6)), (2, .int l2)] [] s0 (f_P_step_124 s0 l2) := by
  unfold f_P_step_124
  refine zj_aload_n 125 0 X kd_P_step_124 rfl rfl rfl ?_
  refine mc_P_100 128 X kd_P_step_125 (Nat.le_of_ble_eq_true rfl) (Nat.le_of_ble_eq_true rfl) (Nat.le_of_ble_eq_true rfl) rfl (fun p8 => ?_)
  refine zj_if_eq 135 131 X kd_P_step_128 rfl rfl (fun _ => ?_) (fun _ => ?_)
  · exact j_P_step_135 X p8.2 l2
  · refine zj_aload_n 132 0 X kd_P_step_131 rfl rfl rfl ?_
    refine mc_P_110 135 X kd_P_step_132 (Nat.le_of_ble_eq_true rfl) (Nat.le_of_ble_eq_true rfl) (Nat.le_of_ble_eq_true rfl) rfl (fun s10 => ?_)
    exact j_P_step_135 X s10 l2
theorem j_P_step {P : ZP} {E : ZE} {A : Nat → Prop} (X : ZX E (zcV P) A "FrameMachine$Processor" b_P_step 3 (some .boolean) 6 146) (s0 : ZS)  : ZJ E (zcV P) A 3 (zFi E (zcV P) A) 0 [(0, .ref (P.1 6))] [] s0 (f_P_step s0) := by
  unfold f_P_step
  refine zj_aload_n 1 0 X kd_P_step_0 rfl rfl rfl ?_
  refine zj_dup 2 X kd_P_step_1 rfl rfl ?_
  refine gf_P_52 5 X kd_P_step_2 rfl ?_
  refine zj_iconst 6 1 X kd_P_step_5 ki_1 rfl ?_
  refine zj_iadd 7 X kd_P_step_6 rfl ?_
  refine pf_P_52 10 X kd_P_step_7 rfl ?_
  refine zj_nms (fun s1 => ?_)
  refine zj_aload_n 11 0 X kd_P_step_10 rfl rfl rfl ?_
  refine gf_P_30 14 X kd_P_step_11 rfl ?_
  refine gf_P_56 17 X kd_P_step_14 rfl ?_
  refine zj_if_eq 22 20 X kd_P_step_17 rfl rfl (fun _ => ?_) (fun _ => ?_)
  · refine zj_aload_n 23 0 X kd_P_step_22 rfl rfl rfl ?_
    refine gf_P_18 26 X kd_P_step_23 rfl ?_
    refine gf_P_62 29 X kd_P_step_26 rfl ?_
    refine mc_P_68 32 X kd_P_step_29 (Nat.le_of_ble_eq_true rfl) (Nat.le_of_ble_eq_true rfl) (Nat.le_of_ble_eq_true rfl) rfl (fun s2 => ?_)
    refine zj_aload_n 33 0 X kd_P_step_32 rfl rfl rfl ?_
    refine gf_P_18 36 X kd_P_step_33 rfl ?_
    refine gf_P_62 39 X kd_P_step_36 rfl ?_
    refine mc_P_73 42 X kd_P_step_39 (Nat.le_of_ble_eq_true rfl) (Nat.le_of_ble_eq_true rfl) (Nat.le_of_ble_eq_true rfl) rfl (fun p3 => ?_)
    refine zj_istore_n 43 [(1, .int p3.1), (0, .ref (P.1 6))] X kd_P_step_42 rfl (Nat.le_of_ble_eq_true rfl) rfl rfl ?_
    refine zj_iload_n 44 0 X kd_P_step_43 rfl rfl rfl ?_
    refine zj_aload_n 45 1 X kd_P_step_44 rfl rfl rfl ?_
    refine gf_P_22 48 X kd_P_step_45 rfl ?_
    refine mc_P_77 51 X kd_P_step_48 (Nat.le_of_ble_eq_true rfl) (Nat.le_of_ble_eq_true rfl) (Nat.le_of_ble_eq_true rfl) rfl (fun p4 => ?_)
    refine zj_icmp_le 80 54 X kd_P_step_51 rfl rfl (fun _ => ?_) (fun _ => ?_)
    · refine zj_aload_n 81 1 X kd_P_step_80 rfl rfl rfl ?_
      refine gf_P_82 84 X kd_P_step_81 rfl ?_
      refine zj_if_eq 89 87 X kd_P_step_84 rfl rfl (fun _ => ?_) (fun _ => ?_)
      · refine zj_aload_n 90 1 X kd_P_step_89 rfl rfl rfl ?_
        refine gf_P_22 93 X kd_P_step_90 rfl ?_
        refine zj_ldc 95 32768 X kd_P_step_93 kw_516 rfl ?_
        refine mc_P_93 98 X kd_P_step_95 (Nat.le_of_ble_eq_true rfl) (Nat.le_of_ble_eq_true rfl) (Nat.le_of_ble_eq_true rfl) rfl (fun p5 => ?_)
        refine zj_istore_n 99 [(2, .int p5.1), (1, .int p3.1), (0, .ref (P.1 6))] X kd_P_step_98 rfl (Nat.le_of_ble_eq_true rfl) rfl rfl ?_
        refine zj_aload_n 100 2 X kd_P_step_99 rfl rfl rfl ?_
        refine mc_P_97 103 X kd_P_step_100 (Nat.le_of_ble_eq_true rfl) (Nat.le_of_ble_eq_true rfl) (Nat.le_of_ble_eq_true rfl) rfl (fun s6 => ?_)
        refine zj_aload_n 104 2 X kd_P_step_103 rfl rfl rfl ?_
        refine mc_P_100 107 X kd_P_step_104 (Nat.le_of_ble_eq_true rfl) (Nat.le_of_ble_eq_true rfl) (Nat.le_of_ble_eq_true rfl) rfl (fun p7 => ?_)
        refine zj_if_eq 124 110 X kd_P_step_107 rfl rfl (fun _ => ?_) (fun _ => ?_)
        · refine zj_loc [2, 0] (L2 := [(0, .ref (P.1 6)), (2, .int p5.1)]) rfl ?_
          exact j_P_step_124 X p7.2 p5.1
        · refine zj_aload_n 111 2 X kd_P_step_110 rfl rfl rfl ?_
          refine gf_P_12 114 X kd_P_step_111 rfl ?_
          refine mc_P_104 117 X kd_P_step_114 (Nat.le_of_ble_eq_true rfl) (Nat.le_of_ble_eq_true rfl) (Nat.le_of_ble_eq_true rfl) rfl (fun p11 => ?_)
          refine zj_if_eq 124 120 X kd_P_step_117 rfl rfl (fun _ => ?_) (fun _ => ?_)
          · refine zj_loc [2, 0] (L2 := [(0, .ref (P.1 6)), (2, .int p5.1)]) rfl ?_
            exact j_P_step_124 X p11.2 p5.1
          · refine zj_aload_n 121 2 X kd_P_step_120 rfl rfl rfl ?_
            refine mc_P_107 124 X kd_P_step_121 (Nat.le_of_ble_eq_true rfl) (Nat.le_of_ble_eq_true rfl) (Nat.le_of_ble_eq_true rfl) rfl (fun s12 => ?_)
            refine zj_loc [2, 0] (L2 := [(0, .ref (P.1 6)), (2, .int p5.1)]) rfl ?_
            exact j_P_step_124 X s12 p5.1
      · refine zj_iconst 88 0 X kd_P_step_87 ki_0 rfl ?_
        exact zj_zret X kd_P_step_88 (Or.inl rfl)
    · refine zj_aload_n 55 1 X kd_P_step_54 rfl rfl rfl ?_
      refine zj_iconst 56 0 X kd_P_step_55 ki_0 rfl ?_
      refine pf_P_82 59 X kd_P_step_56 (Or.inl rfl) rfl ?_
      refine zj_nms (fun s13 => ?_)
      refine zj_aload_n 60 1 X kd_P_step_59 rfl rfl rfl ?_
      refine gf_P_30 63 X kd_P_step_60 rfl ?_
      refine zj_bipush 65 24 X kd_P_step_63 kb_24 rfl ?_
      refine zj_iload_n 66 0 X kd_P_step_65 rfl rfl rfl ?_
      refine zj_iadd 67 X kd_P_step_66 rfl ?_
      refine zj_aload_n 68 1 X kd_P_step_67 rfl rfl rfl ?_
      refine gf_P_22 71 X kd_P_step_68 rfl ?_
      refine gf_P_85 74 X kd_P_step_71 rfl ?_
      refine zj_iconst 75 0 X kd_P_step_74 ki_0 rfl ?_
      refine mc_P_88 78 X kd_P_step_75 (Nat.le_of_ble_eq_true rfl) (Nat.le_of_ble_eq_true rfl) (Nat.le_of_ble_eq_true rfl) rfl (fun s14 => ?_)
      refine zj_iconst 79 1 X kd_P_step_78 ki_1 rfl ?_
      exact zj_zret X kd_P_step_79 (Or.inr rfl)
  · refine zj_iconst 21 0 X kd_P_step_20 ki_0 rfl ?_
    exact zj_zret X kd_P_step_21 (Or.inl rfl)
theorem c_P_step {l : Launch} {P : ZP} (hV : ZVok (zcV P)) (s0 : ZS)  {z : Int32 × ZS} (h : f_P_step s0  = some z) : zMi l y_P_step b_P_step 3 (some .boolean) 6 146 (zcV P) s0 [.ref (P.1 6)] z :=
  zMi_of (by decide +kernel) rfl rfl (Nat.le_of_ble_eq_true rfl) hV (fun _ X => j_P_step X s0 ) h
theorem kc_F_93 : zCV "FrameMachine" 93 y_P_step b_P_step 3 (some .boolean) 0 := ⟨⟨kw_466, kw_467, kw_468, kw_7, kw_469⟩, by decide +kernel, by decide +kernel, by decide +kernel⟩
theorem mc_F_93 {ρ : Type} {E : ZE} {P : ZP} {A : Nat → Prop} {cc : ByteArray} {nL : Nat} {ret : Option FieldType} {fr lo : Nat} {F : ρ → State → Prop} {pc : Nat} {L : List (Nat × Value)} {rest : List Value} {σ : ZS}  {K : Int32 × ZS → Option ρ} (q : Nat) (X : ZX E (zcV P) A "FrameMachine" cc nL ret fr lo) (d : decode cc pc = .ok (.invokevirtual 93, 3)) (hfr : 6 + 1 ≤ fr) (hlo : 8 + (3 + 11) + 146 ≤ lo) (hr : (rest.map fun v => v.category).sum ≤ 8) (hq : pc + 3 = q) (kk : ∀ p : Int32 × ZS, ZJ E (zcV P) A nL F q L (.int p.1 :: rest) p.2 (K p)) : ZJ E (zcV P) A nL F pc L (.ref (P.1 6) :: rest) σ ((f_P_step σ ).bind K) :=
  zj_cVi q 6 6 (As := []) (rest := rest) X kc_F_93 hfr hlo (fun p h => c_P_step (zx_v X) σ  h) rfl rfl rfl hr d hq kk
