-- FrameMachine$Processor.shift(I)V
theorem kd_P_shift_0 : decode b_P_shift 0 = .ok (.aload_n 0, 1) := by decide +kernel
theorem kd_P_shift_1 : decode b_P_shift 1 = .ok (.getfield 12, 3) := by decide +kernel
theorem kd_P_shift_4 : decode b_P_shift 4 = .ok (.getfield 231, 3) := by decide +kernel
theorem kd_P_shift_7 : decode b_P_shift 7 = .ok (.ifCond .ne 8, 3) := by decide +kernel
theorem kd_P_shift_10 : decode b_P_shift 10 = .ok (.bipush 8, 2) := by decide +kernel
theorem kd_P_shift_12 : decode b_P_shift 12 = .ok (.goto 10, 3) := by decide +kernel
theorem kd_P_shift_15 : decode b_P_shift 15 = .ok (.aload_n 0, 1) := by decide +kernel
theorem kd_P_shift_16 : decode b_P_shift 16 = .ok (.getfield 12, 3) := by decide +kernel
theorem kd_P_shift_19 : decode b_P_shift 19 = .ok (.getfield 231, 3) := by decide +kernel
theorem kd_P_shift_22 : decode b_P_shift 22 = .ok (.istore_n 2, 1) := by decide +kernel
theorem kd_P_shift_23 : decode b_P_shift 23 = .ok (.aload_n 0, 1) := by decide +kernel
theorem kd_P_shift_24 : decode b_P_shift 24 = .ok (.aload_n 0, 1) := by decide +kernel
theorem kd_P_shift_25 : decode b_P_shift 25 = .ok (.getfield 48, 3) := by decide +kernel
theorem kd_P_shift_28 : decode b_P_shift 28 = .ok (.iload_n 1, 1) := by decide +kernel
theorem kd_P_shift_29 : decode b_P_shift 29 = .ok (.aload_n 0, 1) := by decide +kernel
theorem kd_P_shift_30 : decode b_P_shift 30 = .ok (.getfield 12, 3) := by decide +kernel
theorem kd_P_shift_33 : decode b_P_shift 33 = .ok (.getfield 160, 3) := by decide +kernel
theorem kd_P_shift_36 : decode b_P_shift 36 = .ok (.aload_n 0, 1) := by decide +kernel
theorem kd_P_shift_37 : decode b_P_shift 37 = .ok (.getfield 12, 3) := by decide +kernel
theorem kd_P_shift_40 : decode b_P_shift 40 = .ok (.getfield 234, 3) := by decide +kernel
theorem kd_P_shift_43 : decode b_P_shift 43 = .ok (.iload_n 2, 1) := by decide +kernel
theorem kd_P_shift_44 : decode b_P_shift 44 = .ok (.invokevirtual 252, 3) := by decide +kernel
theorem kd_P_shift_47 : decode b_P_shift 47 = .ok (.invokevirtual 190, 3) := by decide +kernel
theorem kd_P_shift_50 : decode b_P_shift 50 = .ok (.return_, 1) := by decide +kernel
noncomputable def f_P_shift_22 (s0 : ZS) (l1 : Int32) (t0 : Int32) : Option (ZS) :=
  (f_A_shift s0 l1 (s0 0 25) (s0 0 27) t0).bind fun p1 =>
  (f_P_put p1.2 p1.1).bind fun s2 =>
  some s2
noncomputable def f_P_shift (s0 : ZS) (x1 : Int32) : Option (ZS) :=
  if (s0 0 28) = 0 then
    f_P_shift_22 s0 x1 8
  else
    f_P_shift_22 s0 x1 ((s0 0 28))
theorem j_P_shift_22 {P : ZP} {E : ZE} {A : Nat → Prop} (X : ZX E (zcV P) A "FrameMachine$Processor" b_P_shift 3 none 3 75) (s0 : ZS) (l1 : Int32) (t0 : Int32) : ZJ E (zcV P) A 3 (zFv E (zcV P) A) 22 [(0, .ref (P.1 6)), (1, .int l1)] [.int t0] s0 (f_P_shift_22 s0 l1 t0) := by
  unfold f_P_shift_22
  refine zj_istore_n 23 [(2, .int t0), (0, .ref (P.1 6)), (1, .int l1)] X kd_P_shift_22 rfl (Nat.le_of_ble_eq_true rfl) rfl rfl ?_
  refine zj_aload_n 24 1 X kd_P_shift_23 rfl rfl rfl ?_
  refine zj_aload_n 25 1 X kd_P_shift_24 rfl rfl rfl ?_
  refine gf_P_48 28 X kd_P_shift_25 rfl ?_
  refine zj_iload_n 29 2 X kd_P_shift_28 rfl rfl rfl ?_
  refine zj_aload_n 30 1 X kd_P_shift_29 rfl rfl rfl ?_
  refine gf_P_12 33 X kd_P_shift_30 rfl ?_
  refine gf_P_160 36 X kd_P_shift_33 rfl ?_
  refine zj_aload_n 37 1 X kd_P_shift_36 rfl rfl rfl ?_
  refine gf_P_12 40 X kd_P_shift_37 rfl ?_
  refine gf_P_234 43 X kd_P_shift_40 rfl ?_
  refine zj_iload_n 44 0 X kd_P_shift_43 rfl rfl rfl ?_
  refine mc_P_252 47 X kd_P_shift_44 (Nat.le_of_ble_eq_true rfl) (Nat.le_of_ble_eq_true rfl) (Nat.le_of_ble_eq_true rfl) rfl (fun p1 => ?_)
  refine mc_P_190 50 X kd_P_shift_47 (Nat.le_of_ble_eq_true rfl) (Nat.le_of_ble_eq_true rfl) (Nat.le_of_ble_eq_true rfl) rfl (fun s2 => ?_)
  exact zj_vret X kd_P_shift_50
theorem j_P_shift {P : ZP} {E : ZE} {A : Nat → Prop} (X : ZX E (zcV P) A "FrameMachine$Processor" b_P_shift 3 none 3 75) (s0 : ZS) (x1 : Int32) : ZJ E (zcV P) A 3 (zFv E (zcV P) A) 0 [(0, .ref (P.1 6)), (1, .int x1)] [] s0 (f_P_shift s0 x1) := by
  unfold f_P_shift
  refine zj_aload_n 1 0 X kd_P_shift_0 rfl rfl rfl ?_
  refine gf_P_12 4 X kd_P_shift_1 rfl ?_
  refine gf_P_231 7 X kd_P_shift_4 rfl ?_
  refine zj_if_ne 15 10 X kd_P_shift_7 rfl rfl (fun _ => ?_) (fun _ => ?_)
  · refine zj_bipush 12 8 X kd_P_shift_10 kb_8 rfl ?_
    refine zj_goto 22 X kd_P_shift_12 rfl ?_
    exact j_P_shift_22 X s0 x1 8
  · refine zj_aload_n 16 0 X kd_P_shift_15 rfl rfl rfl ?_
    refine gf_P_12 19 X kd_P_shift_16 rfl ?_
    refine gf_P_231 22 X kd_P_shift_19 rfl ?_
    exact j_P_shift_22 X s0 x1 ((s0 0 28))
theorem c_P_shift {l : Launch} {P : ZP} (hV : ZVok (zcV P)) (s0 : ZS) (x1 : Int32) {z : ZS} (h : f_P_shift s0 x1 = some z) : zMv l y_P_shift b_P_shift 3 none 3 75 (zcV P) s0 [.ref (P.1 6), .int x1] z :=
  zMv_of (by decide +kernel) rfl rfl (Nat.le_of_ble_eq_true rfl) hV (fun _ X => j_P_shift X s0 x1) h
theorem kc_P_209 : zCV "FrameMachine$Processor" 209 y_P_shift b_P_shift 3 none 1 := ⟨⟨kw_664, kw_666, ksel_16, kw_7, kw_667⟩, by decide +kernel, by decide +kernel, by decide +kernel⟩
theorem mc_P_209 {ρ : Type} {E : ZE} {P : ZP} {A : Nat → Prop} {cc : ByteArray} {nL : Nat} {ret : Option FieldType} {fr lo : Nat} {F : ρ → State → Prop} {pc : Nat} {L : List (Nat × Value)} {rest : List Value} {σ : ZS} {x1 : Int32} {K : ZS → Option ρ} (q : Nat) (X : ZX E (zcV P) A "FrameMachine$Processor" cc nL ret fr lo) (d : decode cc pc = .ok (.invokevirtual 209, 3)) (hfr : 3 + 1 ≤ fr) (hlo : 8 + (3 + 11) + 75 ≤ lo) (hr : (rest.map fun v => v.category).sum ≤ 8) (hq : pc + 3 = q) (kk : ∀ p : ZS, ZJ E (zcV P) A nL F q L (rest) p (K p)) : ZJ E (zcV P) A nL F pc L (.int x1 :: .ref (P.1 6) :: rest) σ ((f_P_shift σ x1).bind K) :=
  zj_cVv q 6 6 (As := [.int x1]) (rest := rest) X kc_P_209 hfr hlo (fun p h => c_P_shift (zx_v X) σ x1 h) rfl rfl rfl hr d hq kk
-- FrameMachine$Processor.multiply(II)V
theorem kd_P_multiply_0 : decode b_P_multiply 0 = .ok (.aload_n 0, 1) := by decide +kernel
theorem kd_P_multiply_1 : decode b_P_multiply 1 = .ok (.getfield 22, 3) := by decide +kernel
theorem kd_P_multiply_4 : decode b_P_multiply 4 = .ok (.aload_n 0, 1) := by decide +kernel
theorem kd_P_multiply_5 : decode b_P_multiply 5 = .ok (.getfield 12, 3) := by decide +kernel
theorem kd_P_multiply_8 : decode b_P_multiply 8 = .ok (.getfield 157, 3) := by decide +kernel
theorem kd_P_multiply_11 : decode b_P_multiply 11 = .ok (.iconst 2, 1) := by decide +kernel
theorem kd_P_multiply_12 : decode b_P_multiply 12 = .ok (.iload_n 1, 1) := by decide +kernel
theorem kd_P_multiply_13 : decode b_P_multiply 13 = .ok (.iload_n 2, 1) := by decide +kernel
theorem kd_P_multiply_14 : decode b_P_multiply 14 = .ok (.imul, 1) := by decide +kernel
theorem kd_P_multiply_15 : decode b_P_multiply 15 = .ok (.invokevirtual 249, 3) := by decide +kernel
theorem kd_P_multiply_18 : decode b_P_multiply 18 = .ok (.aload_n 0, 1) := by decide +kernel
theorem kd_P_multiply_19 : decode b_P_multiply 19 = .ok (.getfield 48, 3) := by decide +kernel
theorem kd_P_multiply_22 : decode b_P_multiply 22 = .ok (.iload_n 1, 1) := by decide +kernel
theorem kd_P_multiply_23 : decode b_P_multiply 23 = .ok (.iload_n 2, 1) := by decide +kernel
theorem kd_P_multiply_24 : decode b_P_multiply 24 = .ok (.imul, 1) := by decide +kernel
theorem kd_P_multiply_25 : decode b_P_multiply 25 = .ok (.iconst 2, 1) := by decide +kernel
theorem kd_P_multiply_26 : decode b_P_multiply 26 = .ok (.invokevirtual 205, 3) := by decide +kernel
theorem kd_P_multiply_29 : decode b_P_multiply 29 = .ok (.return_, 1) := by decide +kernel
noncomputable def f_P_multiply (s0 : ZS) (x1 : Int32) (x2 : Int32) : Option (ZS) :=
  (f_G_putData s0 (s0 0 26) 2 (x1 * x2)).bind fun s1 =>
  (f_A_markResult s1 (x1 * x2) 2).bind fun s2 =>
  some s2
theorem j_P_multiply {P : ZP} {E : ZE} {A : Nat → Prop} (X : ZX E (zcV P) A "FrameMachine$Processor" b_P_multiply 3 none 3 66) (s0 : ZS) (x1 : Int32) (x2 : Int32) : ZJ E (zcV P) A 3 (zFv E (zcV P) A) 0 [(0, .ref (P.1 6)), (1, .int x1), (2, .int x2)] [] s0 (f_P_multiply s0 x1 x2) := by
  unfold f_P_multiply
  refine zj_aload_n 1 0 X kd_P_multiply_0 rfl rfl rfl ?_
  refine gf_P_22 4 X kd_P_multiply_1 rfl ?_
  refine zj_aload_n 5 0 X kd_P_multiply_4 rfl rfl rfl ?_
  refine gf_P_12 8 X kd_P_multiply_5 rfl ?_
  refine gf_P_157 11 X kd_P_multiply_8 rfl ?_
  refine zj_iconst 12 2 X kd_P_multiply_11 ki_2 rfl ?_
  refine zj_iload_n 13 1 X kd_P_multiply_12 rfl rfl rfl ?_
  refine zj_iload_n 14 2 X kd_P_multiply_13 rfl rfl rfl ?_
  refine zj_imul 15 X kd_P_multiply_14 rfl ?_
  refine mc_P_249 18 X kd_P_multiply_15 (Nat.le_of_ble_eq_true rfl) (Nat.le_of_ble_eq_true rfl) (Nat.le_of_ble_eq_true rfl) rfl (fun s1 => ?_)
  refine zj_aload_n 19 0 X kd_P_multiply_18 rfl rfl rfl ?_
  refine gf_P_48 22 X kd_P_multiply_19 rfl ?_
  refine zj_iload_n 23 1 X kd_P_multiply_22 rfl rfl rfl ?_
  refine zj_iload_n 24 2 X kd_P_multiply_23 rfl rfl rfl ?_
  refine zj_imul 25 X kd_P_multiply_24 rfl ?_
  refine zj_iconst 26 2 X kd_P_multiply_25 ki_2 rfl ?_
  refine mc_P_205 29 X kd_P_multiply_26 (Nat.le_of_ble_eq_true rfl) (Nat.le_of_ble_eq_true rfl) (Nat.le_of_ble_eq_true rfl) rfl (fun s2 => ?_)
  exact zj_vret X kd_P_multiply_29
theorem c_P_multiply {l : Launch} {P : ZP} (hV : ZVok (zcV P)) (s0 : ZS) (x1 : Int32) (x2 : Int32) {z : ZS} (h : f_P_multiply s0 x1 x2 = some z) : zMv l y_P_multiply b_P_multiply 3 none 3 66 (zcV P) s0 [.ref (P.1 6), .int x1, .int x2] z :=
  zMv_of (by decide +kernel) rfl rfl (Nat.le_of_ble_eq_true rfl) hV (fun _ X => j_P_multiply X s0 x1 x2) h
theorem kc_P_213 : zCV "FrameMachine$Processor" 213 y_P_multiply b_P_multiply 3 none 2 := ⟨⟨kw_677, kw_679, ksel_18, kw_7, kw_680⟩, by decide +kernel, by decide +kernel, by decide +kernel⟩
theorem mc_P_213 {ρ : Type} {E : ZE} {P : ZP} {A : Nat → Prop} {cc : ByteArray} {nL : Nat} {ret : Option FieldType} {fr lo : Nat} {F : ρ → State → Prop} {pc : Nat} {L : List (Nat × Value)} {rest : List Value} {σ : ZS} {x1 : Int32} {x2 : Int32} {K : ZS → Option ρ} (q : Nat) (X : ZX E (zcV P) A "FrameMachine$Processor" cc nL ret fr lo) (d : decode cc pc = .ok (.invokevirtual 213, 3)) (hfr : 3 + 1 ≤ fr) (hlo : 8 + (3 + 11) + 66 ≤ lo) (hr : (rest.map fun v => v.category).sum ≤ 8) (hq : pc + 3 = q) (kk : ∀ p : ZS, ZJ E (zcV P) A nL F q L (rest) p (K p)) : ZJ E (zcV P) A nL F pc L (.int x2 :: .int x1 :: .ref (P.1 6) :: rest) σ ((f_P_multiply σ x1 x2).bind K) :=
  zj_cVv q 6 6 (As := [.int x1, .int x2]) (rest := rest) X kc_P_213 hfr hlo (fun p h => c_P_multiply (zx_v X) σ x1 x2 h) rfl rfl rfl hr d hq kk
-- FrameMachine$Arithmetic.divide(IJJZ)V
theorem kd_A_divide_0 : decode b_A_divide 0 = .ok (.lload 4, 2) := by decide +kernel
theorem kd_A_divide_2 : decode b_A_divide 2 = .ok (.lconst 0, 1) := by decide +kernel
theorem kd_A_divide_3 : decode b_A_divide 3 = .ok (.lcmp, 1) := by decide +kernel
theorem kd_A_divide_4 : decode b_A_divide 4 = .ok (.ifCond .ne 4, 3) := by decide +kernel
theorem kd_A_divide_7 : decode b_A_divide 7 = .ok (.return_, 1) := by decide +kernel
theorem kd_A_divide_8 : decode b_A_divide 8 = .ok (.lload_n 2, 1) := by decide +kernel
theorem kd_A_divide_9 : decode b_A_divide 9 = .ok (.lload 4, 2) := by decide +kernel
theorem kd_A_divide_11 : decode b_A_divide 11 = .ok (.ldiv, 1) := by decide +kernel
theorem kd_A_divide_12 : decode b_A_divide 12 = .ok (.lstore 7, 2) := by decide +kernel
theorem kd_A_divide_14 : decode b_A_divide 14 = .ok (.lload_n 2, 1) := by decide +kernel
theorem kd_A_divide_15 : decode b_A_divide 15 = .ok (.lload 4, 2) := by decide +kernel
theorem kd_A_divide_17 : decode b_A_divide 17 = .ok (.lrem, 1) := by decide +kernel
theorem kd_A_divide_18 : decode b_A_divide 18 = .ok (.lstore 9, 2) := by decide +kernel
theorem kd_A_divide_20 : decode b_A_divide 20 = .ok (.iload 6, 2) := by decide +kernel
theorem kd_A_divide_22 : decode b_A_divide 22 = .ok (.ifCond .eq 22, 3) := by decide +kernel
theorem kd_A_divide_25 : decode b_A_divide 25 = .ok (.lload 7, 2) := by decide +kernel
theorem kd_A_divide_27 : decode b_A_divide 27 = .ok (.lload 7, 2) := by decide +kernel
theorem kd_A_divide_29 : decode b_A_divide 29 = .ok (.l2i, 1) := by decide +kernel
theorem kd_A_divide_30 : decode b_A_divide 30 = .ok (.i2s, 1) := by decide +kernel
theorem kd_A_divide_31 : decode b_A_divide 31 = .ok (.i2l, 1) := by decide +kernel
theorem kd_A_divide_32 : decode b_A_divide 32 = .ok (.lcmp, 1) := by decide +kernel
theorem kd_A_divide_33 : decode b_A_divide 33 = .ok (.ifCond .ne 7, 3) := by decide +kernel
theorem kd_A_divide_36 : decode b_A_divide 36 = .ok (.iconst 1, 1) := by decide +kernel
theorem kd_A_divide_37 : decode b_A_divide 37 = .ok (.goto 21, 3) := by decide +kernel
theorem kd_A_divide_40 : decode b_A_divide 40 = .ok (.iconst 0, 1) := by decide +kernel
theorem kd_A_divide_41 : decode b_A_divide 41 = .ok (.goto 17, 3) := by decide +kernel
theorem kd_A_divide_44 : decode b_A_divide 44 = .ok (.lload 7, 2) := by decide +kernel
theorem kd_A_divide_46 : decode b_A_divide 46 = .ok (.ldc2_w 49, 3) := by decide +kernel
theorem kd_A_divide_49 : decode b_A_divide 49 = .ok (.lcmp, 1) := by decide +kernel
theorem kd_A_divide_50 : decode b_A_divide 50 = .ok (.ifCond .gt 7, 3) := by decide +kernel
theorem kd_A_divide_53 : decode b_A_divide 53 = .ok (.iconst 1, 1) := by decide +kernel
theorem kd_A_divide_54 : decode b_A_divide 54 = .ok (.goto 4, 3) := by decide +kernel
theorem kd_A_divide_57 : decode b_A_divide 57 = .ok (.iconst 0, 1) := by decide +kernel
theorem kd_A_divide_58 : decode b_A_divide 58 = .ok (.istore 11, 2) := by decide +kernel
theorem kd_A_divide_60 : decode b_A_divide 60 = .ok (.iload 11, 2) := by decide +kernel
theorem kd_A_divide_62 : decode b_A_divide 62 = .ok (.ifCond .ne 22, 3) := by decide +kernel
theorem kd_A_divide_65 : decode b_A_divide 65 = .ok (.aload_n 0, 1) := by decide +kernel
theorem kd_A_divide_66 : decode b_A_divide 66 = .ok (.getfield 9, 3) := by decide +kernel
theorem kd_A_divide_69 : decode b_A_divide 69 = .ok (.iconst 2, 1) := by decide +kernel
theorem kd_A_divide_70 : decode b_A_divide 70 = .ok (.iconst 1, 1) := by decide +kernel
theorem kd_A_divide_71 : decode b_A_divide 71 = .ok (.invokevirtual 19, 3) := by decide +kernel
theorem kd_A_divide_74 : decode b_A_divide 74 = .ok (.aload_n 0, 1) := by decide +kernel
theorem kd_A_divide_75 : decode b_A_divide 75 = .ok (.getfield 9, 3) := by decide +kernel
theorem kd_A_divide_78 : decode b_A_divide 78 = .ok (.iconst 1, 1) := by decide +kernel
theorem kd_A_divide_79 : decode b_A_divide 79 = .ok (.iconst 0, 1) := by decide +kernel
theorem kd_A_divide_80 : decode b_A_divide 80 = .ok (.invokevirtual 19, 3) := by decide +kernel
theorem kd_A_divide_83 : decode b_A_divide 83 = .ok (.return_, 1) := by decide +kernel
theorem kd_A_divide_84 : decode b_A_divide 84 = .ok (.aload_n 0, 1) := by decide +kernel
theorem kd_A_divide_85 : decode b_A_divide 85 = .ok (.getfield 9, 3) := by decide +kernel
theorem kd_A_divide_88 : decode b_A_divide 88 = .ok (.iload_n 1, 1) := by decide +kernel
theorem kd_A_divide_89 : decode b_A_divide 89 = .ok (.iconst 2, 1) := by decide +kernel
theorem kd_A_divide_90 : decode b_A_divide 90 = .ok (.lload 9, 2) := by decide +kernel
theorem kd_A_divide_92 : decode b_A_divide 92 = .ok (.l2i, 1) := by decide +kernel
theorem kd_A_divide_93 : decode b_A_divide 93 = .ok (.bipush 16, 2) := by decide +kernel
theorem kd_A_divide_95 : decode b_A_divide 95 = .ok (.ishl, 1) := by decide +kernel
theorem kd_A_divide_96 : decode b_A_divide 96 = .ok (.lload 7, 2) := by decide +kernel
theorem kd_A_divide_98 : decode b_A_divide 98 = .ok (.l2i, 1) := by decide +kernel
theorem kd_A_divide_99 : decode b_A_divide 99 = .ok (.ldc 51, 2) := by decide +kernel
theorem kd_A_divide_101 : decode b_A_divide 101 = .ok (.iand, 1) := by decide +kernel
theorem kd_A_divide_102 : decode b_A_divide 102 = .ok (.ior, 1) := by decide +kernel
theorem kd_A_divide_103 : decode b_A_divide 103 = .ok (.invokevirtual 52, 3) := by decide +kernel
theorem kd_A_divide_106 : decode b_A_divide 106 = .ok (.aload_n 0, 1) := by decide +kernel
theorem kd_A_divide_107 : decode b_A_divide 107 = .ok (.lload 7, 2) := by decide +kernel
theorem kd_A_divide_109 : decode b_A_divide 109 = .ok (.l2i, 1) := by decide +kernel
theorem kd_A_divide_110 : decode b_A_divide 110 = .ok (.iconst 1, 1) := by decide +kernel
theorem kd_A_divide_111 : decode b_A_divide 111 = .ok (.invokevirtual 56, 3) := by decide +kernel
theorem kd_A_divide_114 : decode b_A_divide 114 = .ok (.return_, 1) := by decide +kernel
noncomputable def f_A_divide_58 (s0 : ZS) (l1 : Int32) (l7 : Int64) (l9 : Int64) (t0 : Int32) : Option (ZS) :=
  if t0 = 0 then
    (f_G_mark s0 2 1).bind fun s5 =>
    (f_G_mark s5 1 0).bind fun s6 =>
    some s6
  else
    (f_G_putData s0 l1 2 ((zo_shl (l9.toInt32) 16) ||| ((l7.toInt32) &&& 65535))).bind fun s3 =>
    (f_A_markResult s3 (l7.toInt32) 1).bind fun s4 =>
    some s4
noncomputable def f_A_divide (s0 : ZS) (x1 : Int32) (x2 : Int64) (x3 : Int64) (x4 : Int32) : Option (ZS) :=
  if (lg_cmp x3 0) = 0 then
    some s0
  else
    if x3 = 0 then none else
    zs_nm (zo_ldiv x2 x3) fun v1 =>
    if x3 = 0 then none else
    zs_nm (zo_lrem x2 x3) fun v2 =>
    if x4 = 0 then
      if 0 < (lg_cmp v1 65535) then
        f_A_divide_58 s0 x1 v1 v2 0
      else
        f_A_divide_58 s0 x1 v1 v2 1
    else
      if (lg_cmp v1 (((v1.toInt32).toInt16.toInt32).toInt64)) = 0 then
        f_A_divide_58 s0 x1 v1 v2 1
      else
        f_A_divide_58 s0 x1 v1 v2 0
theorem j_A_divide_58 {P : ZP} {E : ZE} {A : Nat → Prop} (X : ZX E (zcV P) A "FrameMachine$Arithmetic" b_A_divide 12 none 3 66) (s0 : ZS) (l1 : Int32) (l7 : Int64) (l9 : Int64) (t0 : Int32) : ZJ E (zcV P) A 12 (zFv E (zcV P) A) 58 [(0, .ref (P.1 9)), (1, .int l1), (7, .long l7), (9, .long l9)] [.int t0] s0 (f_A_divide_58 s0 l1 l7 l9 t0) := by
  unfold f_A_divide_58
  refine zj_istore 60 [(11, .int t0), (0, .ref (P.1 9)), (1, .int l1), (7, .long l7), (9, .long l9)] X kd_A_divide_58 (Nat.le_of_ble_eq_true rfl) rfl rfl ?_
  refine zj_iload 62 0 X kd_A_divide_60 rfl rfl ?_
  refine zj_if_ne 84 65 X kd_A_divide_62 rfl rfl (fun _ => ?_) (fun _ => ?_)
  · refine zj_aload_n 66 1 X kd_A_divide_65 rfl rfl rfl ?_
    refine gf_A_9 69 X kd_A_divide_66 rfl ?_
    refine zj_iconst 70 2 X kd_A_divide_69 ki_2 rfl ?_
    refine zj_iconst 71 1 X kd_A_divide_70 ki_1 rfl ?_
    refine mc_A_19 74 X kd_A_divide_71 (Nat.le_of_ble_eq_true rfl) (Nat.le_of_ble_eq_true rfl) (Nat.le_of_ble_eq_true rfl) rfl (fun s5 => ?_)
    refine zj_aload_n 75 1 X kd_A_divide_74 rfl rfl rfl ?_
    refine gf_A_9 78 X kd_A_divide_75 rfl ?_
    refine zj_iconst 79 1 X kd_A_divide_78 ki_1 rfl ?_
    refine zj_iconst 80 0 X kd_A_divide_79 ki_0 rfl ?_
    refine mc_A_19 83 X kd_A_divide_80 (Nat.le_of_ble_eq_true rfl) (Nat.le_of_ble_eq_true rfl) (Nat.le_of_ble_eq_true rfl) rfl (fun s6 => ?_)
    exact zj_vret X kd_A_divide_83
  · refine zj_aload_n 85 1 X kd_A_divide_84 rfl rfl rfl ?_
    refine gf_A_9 88 X kd_A_divide_85 rfl ?_
    refine zj_iload_n 89 2 X kd_A_divide_88 rfl rfl rfl ?_
    refine zj_iconst 90 2 X kd_A_divide_89 ki_2 rfl ?_
    refine zj_lload 92 4 X kd_A_divide_90 rfl rfl ?_
    refine zj_l2i 93 X kd_A_divide_92 rfl ?_
    refine zj_bipush 95 16 X kd_A_divide_93 kb_16 rfl ?_
    refine zj_ishl 96 X kd_A_divide_95 rfl ?_
    refine zj_lload 98 3 X kd_A_divide_96 rfl rfl ?_
    refine zj_l2i 99 X kd_A_divide_98 rfl ?_
    refine zj_ldc 101 65535 X kd_A_divide_99 kw_691 rfl ?_
    refine zj_iand 102 X kd_A_divide_101 rfl ?_
    refine zj_ior 103 X kd_A_divide_102 rfl ?_
    refine mc_A_52 106 X kd_A_divide_103 (Nat.le_of_ble_eq_true rfl) (Nat.le_of_ble_eq_true rfl) (Nat.le_of_ble_eq_true rfl) rfl (fun s3 => ?_)
    refine zj_aload_n 107 1 X kd_A_divide_106 rfl rfl rfl ?_
    refine zj_lload 109 3 X kd_A_divide_107 rfl rfl ?_
    refine zj_l2i 110 X kd_A_divide_109 rfl ?_
    refine zj_iconst 111 1 X kd_A_divide_110 ki_1 rfl ?_
    refine mc_A_56 114 X kd_A_divide_111 (Nat.le_of_ble_eq_true rfl) (Nat.le_of_ble_eq_true rfl) (Nat.le_of_ble_eq_true rfl) rfl (fun s4 => ?_)
    exact zj_vret X kd_A_divide_114
theorem j_A_divide {P : ZP} {E : ZE} {A : Nat → Prop} (X : ZX E (zcV P) A "FrameMachine$Arithmetic" b_A_divide 12 none 3 66) (s0 : ZS) (x1 : Int32) (x2 : Int64) (x3 : Int64) (x4 : Int32) : ZJ E (zcV P) A 12 (zFv E (zcV P) A) 0 [(0, .ref (P.1 9)), (1, .int x1), (2, .long x2), (4, .long x3), (6, .int x4)] [] s0 (f_A_divide s0 x1 x2 x3 x4) := by
  unfold f_A_divide
  refine zj_lload 2 3 X kd_A_divide_0 rfl rfl ?_
  refine zj_lconst 3 0 X kd_A_divide_2 rfl rfl ?_
  refine zj_lcmp 4 X kd_A_divide_3 rfl ?_
  refine zj_if_ne 8 7 X kd_A_divide_4 rfl rfl (fun _ => ?_) (fun _ => ?_)
  · exact zj_vret X kd_A_divide_7
  · refine zj_lload_n 9 2 X kd_A_divide_8 rfl rfl rfl ?_
    refine zj_lload 11 3 X kd_A_divide_9 rfl rfl ?_
    refine zj_ng (fun hg => ?_)
    refine zj_ldiv 12 X kd_A_divide_11 hg rfl ?_
    refine zj_nml (fun v1 => ?_)
    refine zj_lstore 14 [(7, .long v1), (0, .ref (P.1 9)), (1, .int x1), (2, .long x2), (4, .long x3), (6, .int x4)] X kd_A_divide_12 (Nat.le_of_ble_eq_true rfl) rfl rfl ?_
    refine zj_lload_n 15 3 X kd_A_divide_14 rfl rfl rfl ?_
    refine zj_lload 17 4 X kd_A_divide_15 rfl rfl ?_
    refine zj_ng (fun hg => ?_)
    refine zj_lrem 18 X kd_A_divide_17 hg rfl ?_
    refine zj_nml (fun v2 => ?_)
    refine zj_lstore 20 [(9, .long v2), (7, .long v1), (0, .ref (P.1 9)), (1, .int x1), (2, .long x2), (4, .long x3), (6, .int x4)] X kd_A_divide_18 (Nat.le_of_ble_eq_true rfl) rfl rfl ?_
    refine zj_iload 22 6 X kd_A_divide_20 rfl rfl ?_
    refine zj_if_eq 44 25 X kd_A_divide_22 rfl rfl (fun _ => ?_) (fun _ => ?_)
    · refine zj_lload 46 1 X kd_A_divide_44 rfl rfl ?_
      refine zj_ldc2 49 65535 X kd_A_divide_46 kw_690 rfl ?_
      refine zj_lcmp 50 X kd_A_divide_49 rfl ?_
      refine zj_if_gt 57 53 X kd_A_divide_50 rfl rfl (fun _ => ?_) (fun _ => ?_)
      · refine zj_iconst 58 0 X kd_A_divide_57 ki_0 rfl ?_
        refine zj_loc [2, 3, 1, 0] (L2 := [(0, .ref (P.1 9)), (1, .int x1), (7, .long v1), (9, .long v2)]) rfl ?_
        exact j_A_divide_58 X s0 x1 v1 v2 0
      · refine zj_iconst 54 1 X kd_A_divide_53 ki_1 rfl ?_
        refine zj_goto 58 X kd_A_divide_54 rfl ?_
        refine zj_loc [2, 3, 1, 0] (L2 := [(0, .ref (P.1 9)), (1, .int x1), (7, .long v1), (9, .long v2)]) rfl ?_
        exact j_A_divide_58 X s0 x1 v1 v2 1
    · refine zj_lload 27 1 X kd_A_divide_25 rfl rfl ?_
      refine zj_lload 29 1 X kd_A_divide_27 rfl rfl ?_
      refine zj_l2i 30 X kd_A_divide_29 rfl ?_
      refine zj_i2s 31 X kd_A_divide_30 rfl ?_
      refine zj_i2l 32 X kd_A_divide_31 rfl ?_
      refine zj_lcmp 33 X kd_A_divide_32 rfl ?_
      refine zj_if_ne 40 36 X kd_A_divide_33 rfl rfl (fun _ => ?_) (fun _ => ?_)
      · refine zj_iconst 37 1 X kd_A_divide_36 ki_1 rfl ?_
        refine zj_goto 58 X kd_A_divide_37 rfl ?_
        refine zj_loc [2, 3, 1, 0] (L2 := [(0, .ref (P.1 9)), (1, .int x1), (7, .long v1), (9, .long v2)]) rfl ?_
        exact j_A_divide_58 X s0 x1 v1 v2 1
      · refine zj_iconst 41 0 X kd_A_divide_40 ki_0 rfl ?_
        refine zj_goto 58 X kd_A_divide_41 rfl ?_
        refine zj_loc [2, 3, 1, 0] (L2 := [(0, .ref (P.1 9)), (1, .int x1), (7, .long v1), (9, .long v2)]) rfl ?_
        exact j_A_divide_58 X s0 x1 v1 v2 0
theorem c_A_divide {l : Launch} {P : ZP} (hV : ZVok (zcV P)) (s0 : ZS) (x1 : Int32) (x2 : Int64) (x3 : Int64) (x4 : Int32) {z : ZS} (h : f_A_divide s0 x1 x2 x3 x4 = some z) : zMv l y_A_divide b_A_divide 12 none 3 66 (zcV P) s0 [.ref (P.1 9), .int x1, .long x2, .long x3, .int x4] z :=
  zMv_of (by decide +kernel) rfl rfl (Nat.le_of_ble_eq_true rfl) hV (fun _ X => j_A_divide X s0 x1 x2 x3 x4) h
theorem kc_P_255 : zCV "FrameMachine$Processor" 255 y_A_divide b_A_divide 12 none 4 := ⟨⟨kw_686, kw_687, kw_688, kw_10, kw_689⟩, by decide +kernel, by decide +kernel, by decide +kernel⟩
theorem mc_P_255 {ρ : Type} {E : ZE} {P : ZP} {A : Nat → Prop} {cc : ByteArray} {nL : Nat} {ret : Option FieldType} {fr lo : Nat} {F : ρ → State → Prop} {pc : Nat} {L : List (Nat × Value)} {rest : List Value} {σ : ZS} {x1 : Int32} {x2 : Int64} {x3 : Int64} {x4 : Int32} {K : ZS → Option ρ} (q : Nat) (X : ZX E (zcV P) A "FrameMachine$Processor" cc nL ret fr lo) (d : decode cc pc = .ok (.invokevirtual 255, 3)) (hfr : 3 + 1 ≤ fr) (hlo : 8 + (12 + 11) + 66 ≤ lo) (hr : (rest.map fun v => v.category).sum ≤ 8) (hq : pc + 3 = q) (kk : ∀ p : ZS, ZJ E (zcV P) A nL F q L (rest) p (K p)) : ZJ E (zcV P) A nL F pc L (.int x4 :: .long x3 :: .long x2 :: .int x1 :: .ref (P.1 9) :: rest) σ ((f_A_divide σ x1 x2 x3 x4).bind K) :=
  zj_cVv q 9 9 (As := [.int x1, .long x2, .long x3, .int x4]) (rest := rest) X kc_P_255 hfr hlo (fun p h => c_A_divide (zx_v X) σ x1 x2 x3 x4 h) rfl rfl rfl hr d hq kk
-- FrameMachine$Processor.divide(JJZ)V
theorem kd_P_divide_0 : decode b_P_divide 0 = .ok (.lload_n 3, 1) := by decide +kernel
theorem kd_P_divide_1 : decode b_P_divide 1 = .ok (.lconst 0, 1) := by decide +kernel
theorem kd_P_divide_2 : decode b_P_divide 2 = .ok (.lcmp, 1) := by decide +kernel
theorem kd_P_divide_3 : decode b_P_divide 3 = .ok (.ifCond .ne 11, 3) := by decide +kernel
theorem kd_P_divide_6 : decode b_P_divide 6 = .ok (.aload_n 0, 1) := by decide +kernel
theorem kd_P_divide_7 : decode b_P_divide 7 = .ok (.iconst 5, 1) := by decide +kernel
theorem kd_P_divide_8 : decode b_P_divide 8 = .ok (.putfield 120, 3) := by decide +kernel
theorem kd_P_divide_11 : decode b_P_divide 11 = .ok (.goto 21, 3) := by decide +kernel
theorem kd_P_divide_14 : decode b_P_divide 14 = .ok (.aload_n 0, 1) := by decide +kernel
theorem kd_P_divide_15 : decode b_P_divide 15 = .ok (.getfield 48, 3) := by decide +kernel
theorem kd_P_divide_18 : decode b_P_divide 18 = .ok (.aload_n 0, 1) := by decide +kernel
theorem kd_P_divide_19 : decode b_P_divide 19 = .ok (.getfield 12, 3) := by decide +kernel
theorem kd_P_divide_22 : decode b_P_divide 22 = .ok (.getfield 157, 3) := by decide +kernel
theorem kd_P_divide_25 : decode b_P_divide 25 = .ok (.lload_n 1, 1) := by decide +kernel
theorem kd_P_divide_26 : decode b_P_divide 26 = .ok (.lload_n 3, 1) := by decide +kernel
theorem kd_P_divide_27 : decode b_P_divide 27 = .ok (.iload 5, 2) := by decide +kernel
theorem kd_P_divide_29 : decode b_P_divide 29 = .ok (.invokevirtual 255, 3) := by decide +kernel
theorem kd_P_divide_32 : decode b_P_divide 32 = .ok (.return_, 1) := by decide +kernel
noncomputable def f_P_divide (s0 : ZS) (x1 : Int64) (x2 : Int64) (x3 : Int32) : Option (ZS) :=
  if (lg_cmp x2 0) = 0 then
    zs_nm (zs_up s0 0 22 5) fun s2 =>
    some s2
  else
    (f_A_divide s0 (s0 0 26) x1 x2 x3).bind fun s1 =>
    some s1
theorem j_P_divide {P : ZP} {E : ZE} {A : Nat → Prop} (X : ZX E (zcV P) A "FrameMachine$Processor" b_P_divide 6 none 4 97) (s0 : ZS) (x1 : Int64) (x2 : Int64) (x3 : Int32) : ZJ E (zcV P) A 6 (zFv E (zcV P) A) 0 [(0, .ref (P.1 6)), (1, .long x1), (3, .long x2), (5, .int x3)] [] s0 (f_P_divide s0 x1 x2 x3) := by
  unfold f_P_divide
  refine zj_lload_n 1 2 X kd_P_divide_0 rfl rfl rfl ?_
  refine zj_lconst 2 0 X kd_P_divide_1 rfl rfl ?_
  refine zj_lcmp 3 X kd_P_divide_2 rfl ?_
  refine zj_if_ne 14 6 X kd_P_divide_3 rfl rfl (fun _ => ?_) (fun _ => ?_)
  · refine zj_aload_n 7 0 X kd_P_divide_6 rfl rfl rfl ?_
    refine zj_iconst 8 5 X kd_P_divide_7 ki_5 rfl ?_
    refine pf_P_120 11 X kd_P_divide_8 rfl ?_
    refine zj_nms (fun s2 => ?_)
    refine zj_goto 32 X kd_P_divide_11 rfl ?_
    exact zj_vret X kd_P_divide_32
  · refine zj_aload_n 15 0 X kd_P_divide_14 rfl rfl rfl ?_
    refine gf_P_48 18 X kd_P_divide_15 rfl ?_
    refine zj_aload_n 19 0 X kd_P_divide_18 rfl rfl rfl ?_
    refine gf_P_12 22 X kd_P_divide_19 rfl ?_
    refine gf_P_157 25 X kd_P_divide_22 rfl ?_
    refine zj_lload_n 26 1 X kd_P_divide_25 rfl rfl rfl ?_
    refine zj_lload_n 27 2 X kd_P_divide_26 rfl rfl rfl ?_
    refine zj_iload 29 3 X kd_P_divide_27 rfl rfl ?_
    refine mc_P_255 32 X kd_P_divide_29 (Nat.le_of_ble_eq_true rfl) (Nat.le_of_ble_eq_true rfl) (Nat.le_of_ble_eq_true rfl) rfl (fun s1 => ?_)
    exact zj_vret X kd_P_divide_32
theorem c_P_divide {l : Launch} {P : ZP} (hV : ZVok (zcV P)) (s0 : ZS) (x1 : Int64) (x2 : Int64) (x3 : Int32) {z : ZS} (h : f_P_divide s0 x1 x2 x3 = some z) : zMv l y_P_divide b_P_divide 6 none 4 97 (zcV P) s0 [.ref (P.1 6), .long x1, .long x2, .int x3] z :=
  zMv_of (by decide +kernel) rfl rfl (Nat.le_of_ble_eq_true rfl) hV (fun _ X => j_P_divide X s0 x1 x2 x3) h
theorem kc_P_218 : zCV "FrameMachine$Processor" 218 y_P_divide b_P_divide 6 none 3 := ⟨⟨kw_682, kw_684, ksel_19, kw_7, kw_685⟩, by decide +kernel, by decide +kernel, by decide +kernel⟩
theorem mc_P_218 {ρ : Type} {E : ZE} {P : ZP} {A : Nat → Prop} {cc : ByteArray} {nL : Nat} {ret : Option FieldType} {fr lo : Nat} {F : ρ → State → Prop} {pc : Nat} {L : List (Nat × Value)} {rest : List Value} {σ : ZS} {x1 : Int64} {x2 : Int64} {x3 : Int32} {K : ZS → Option ρ} (q : Nat) (X : ZX E (zcV P) A "FrameMachine$Processor" cc nL ret fr lo) (d : decode cc pc = .ok (.invokevirtual 218, 3)) (hfr : 4 + 1 ≤ fr) (hlo : 8 + (6 + 11) + 97 ≤ lo) (hr : (rest.map fun v => v.category).sum ≤ 8) (hq : pc + 3 = q) (kk : ∀ p : ZS, ZJ E (zcV P) A nL F q L (rest) p (K p)) : ZJ E (zcV P) A nL F pc L (.int x3 :: .long x2 :: .long x1 :: .ref (P.1 6) :: rest) σ ((f_P_divide σ x1 x2 x3).bind K) :=
  zj_cVv q 6 6 (As := [.long x1, .long x2, .int x3]) (rest := rest) X kc_P_218 hfr hlo (fun p h => c_P_divide (zx_v X) σ x1 x2 x3 h) rfl rfl rfl hr d hq kk
-- FrameMachine$Registers.meets(I)Z
theorem kd_G_meets_0 : decode b_G_meets 0 = .ok (.iload_n 1, 1) := by decide +kernel
theorem kd_G_meets_1 : decode b_G_meets 1 = .ok (.iconst 1, 1) := by decide +kernel
theorem kd_G_meets_2 : decode b_G_meets 2 = .ok (.ishr, 1) := by decide +kernel
theorem kd_G_meets_3 : decode b_G_meets 3 = .ok (.tableswitch 163 0 6 #[41, 46, 71, 88, 105, 122, 140], 41) := by decide +kernel
theorem kd_G_meets_44 : decode b_G_meets 44 = .ok (.iconst 1, 1) := by decide +kernel
theorem kd_G_meets_45 : decode b_G_meets 45 = .ok (.istore_n 2, 1) := by decide +kernel
theorem kd_G_meets_46 : decode b_G_meets 46 = .ok (.goto 148, 3) := by decide +kernel
theorem kd_G_meets_49 : decode b_G_meets 49 = .ok (.aload_n 0, 1) := by decide +kernel
theorem kd_G_meets_50 : decode b_G_meets 50 = .ok (.iconst 1, 1) := by decide +kernel
theorem kd_G_meets_51 : decode b_G_meets 51 = .ok (.invokevirtual 33, 3) := by decide +kernel
theorem kd_G_meets_54 : decode b_G_meets 54 = .ok (.ifCond .ne 15, 3) := by decide +kernel
theorem kd_G_meets_57 : decode b_G_meets 57 = .ok (.aload_n 0, 1) := by decide +kernel
theorem kd_G_meets_58 : decode b_G_meets 58 = .ok (.iconst 4, 1) := by decide +kernel
theorem kd_G_meets_59 : decode b_G_meets 59 = .ok (.invokevirtual 33, 3) := by decide +kernel
theorem kd_G_meets_62 : decode b_G_meets 62 = .ok (.ifCond .ne 7, 3) := by decide +kernel
theorem kd_G_meets_65 : decode b_G_meets 65 = .ok (.iconst 1, 1) := by decide +kernel
theorem kd_G_meets_66 : decode b_G_meets 66 = .ok (.goto 4, 3) := by decide +kernel
theorem kd_G_meets_69 : decode b_G_meets 69 = .ok (.iconst 0, 1) := by decide +kernel
theorem kd_G_meets_70 : decode b_G_meets 70 = .ok (.istore_n 2, 1) := by decide +kernel
theorem kd_G_meets_71 : decode b_G_meets 71 = .ok (.goto 123, 3) := by decide +kernel
theorem kd_G_meets_74 : decode b_G_meets 74 = .ok (.aload_n 0, 1) := by decide +kernel
theorem kd_G_meets_75 : decode b_G_meets 75 = .ok (.iconst 1, 1) := by decide +kernel
theorem kd_G_meets_76 : decode b_G_meets 76 = .ok (.invokevirtual 33, 3) := by decide +kernel
theorem kd_G_meets_79 : decode b_G_meets 79 = .ok (.ifCond .ne 7, 3) := by decide +kernel
theorem kd_G_meets_82 : decode b_G_meets 82 = .ok (.iconst 1, 1) := by decide +kernel
theorem kd_G_meets_83 : decode b_G_meets 83 = .ok (.goto 4, 3) := by decide +kernel
theorem kd_G_meets_86 : decode b_G_meets 86 = .ok (.iconst 0, 1) := by decide +kernel
theorem kd_G_meets_87 : decode b_G_meets 87 = .ok (.istore_n 2, 1) := by decide +kernel
theorem kd_G_meets_88 : decode b_G_meets 88 = .ok (.goto 106, 3) := by decide +kernel
theorem kd_G_meets_91 : decode b_G_meets 91 = .ok (.aload_n 0, 1) := by decide +kernel
theorem kd_G_meets_92 : decode b_G_meets 92 = .ok (.iconst 4, 1) := by decide +kernel
theorem kd_G_meets_93 : decode b_G_meets 93 = .ok (.invokevirtual 33, 3) := by decide +kernel
theorem kd_G_meets_96 : decode b_G_meets 96 = .ok (.ifCond .ne 7, 3) := by decide +kernel
theorem kd_G_meets_99 : decode b_G_meets 99 = .ok (.iconst 1, 1) := by decide +kernel
theorem kd_G_meets_100 : decode b_G_meets 100 = .ok (.goto 4, 3) := by decide +kernel
theorem kd_G_meets_103 : decode b_G_meets 103 = .ok (.iconst 0, 1) := by decide +kernel
theorem kd_G_meets_104 : decode b_G_meets 104 = .ok (.istore_n 2, 1) := by decide +kernel
theorem kd_G_meets_105 : decode b_G_meets 105 = .ok (.goto 89, 3) := by decide +kernel
theorem kd_G_meets_108 : decode b_G_meets 108 = .ok (.aload_n 0, 1) := by decide +kernel
theorem kd_G_meets_109 : decode b_G_meets 109 = .ok (.iconst 2, 1) := by decide +kernel
theorem kd_G_meets_110 : decode b_G_meets 110 = .ok (.invokevirtual 33, 3) := by decide +kernel
theorem kd_G_meets_113 : decode b_G_meets 113 = .ok (.ifCond .ne 7, 3) := by decide +kernel
theorem kd_G_meets_116 : decode b_G_meets 116 = .ok (.iconst 1, 1) := by decide +kernel
theorem kd_G_meets_117 : decode b_G_meets 117 = .ok (.goto 4, 3) := by decide +kernel
theorem kd_G_meets_120 : decode b_G_meets 120 = .ok (.iconst 0, 1) := by decide +kernel
theorem kd_G_meets_121 : decode b_G_meets 121 = .ok (.istore_n 2, 1) := by decide +kernel
theorem kd_G_meets_122 : decode b_G_meets 122 = .ok (.goto 72, 3) := by decide +kernel
theorem kd_G_meets_125 : decode b_G_meets 125 = .ok (.aload_n 0, 1) := by decide +kernel
theorem kd_G_meets_126 : decode b_G_meets 126 = .ok (.bipush 8, 2) := by decide +kernel
theorem kd_G_meets_128 : decode b_G_meets 128 = .ok (.invokevirtual 33, 3) := by decide +kernel
theorem kd_G_meets_131 : decode b_G_meets 131 = .ok (.ifCond .ne 7, 3) := by decide +kernel
theorem kd_G_meets_134 : decode b_G_meets 134 = .ok (.iconst 1, 1) := by decide +kernel
theorem kd_G_meets_135 : decode b_G_meets 135 = .ok (.goto 4, 3) := by decide +kernel
theorem kd_G_meets_138 : decode b_G_meets 138 = .ok (.iconst 0, 1) := by decide +kernel
theorem kd_G_meets_139 : decode b_G_meets 139 = .ok (.istore_n 2, 1) := by decide +kernel
theorem kd_G_meets_140 : decode b_G_meets 140 = .ok (.goto 54, 3) := by decide +kernel
theorem kd_G_meets_143 : decode b_G_meets 143 = .ok (.aload_n 0, 1) := by decide +kernel
theorem kd_G_meets_144 : decode b_G_meets 144 = .ok (.bipush 8, 2) := by decide +kernel
theorem kd_G_meets_146 : decode b_G_meets 146 = .ok (.invokevirtual 33, 3) := by decide +kernel
theorem kd_G_meets_149 : decode b_G_meets 149 = .ok (.aload_n 0, 1) := by decide +kernel
theorem kd_G_meets_150 : decode b_G_meets 150 = .ok (.iconst 2, 1) := by decide +kernel
theorem kd_G_meets_151 : decode b_G_meets 151 = .ok (.invokevirtual 33, 3) := by decide +kernel
theorem kd_G_meets_154 : decode b_G_meets 154 = .ok (.if_icmp .ne 7, 3) := by decide +kernel
theorem kd_G_meets_157 : decode b_G_meets 157 = .ok (.iconst 1, 1) := by decide +kernel
theorem kd_G_meets_158 : decode b_G_meets 158 = .ok (.goto 4, 3) := by decide +kernel
theorem kd_G_meets_161 : decode b_G_meets 161 = .ok (.iconst 0, 1) := by decide +kernel
theorem kd_G_meets_162 : decode b_G_meets 162 = .ok (.istore_n 2, 1) := by decide +kernel
theorem kd_G_meets_163 : decode b_G_meets 163 = .ok (.goto 31, 3) := by decide +kernel
theorem kd_G_meets_166 : decode b_G_meets 166 = .ok (.aload_n 0, 1) := by decide +kernel
theorem kd_G_meets_167 : decode b_G_meets 167 = .ok (.bipush 8, 2) := by decide +kernel
theorem kd_G_meets_169 : decode b_G_meets 169 = .ok (.invokevirtual 33, 3) := by decide +kernel
theorem kd_G_meets_172 : decode b_G_meets 172 = .ok (.aload_n 0, 1) := by decide +kernel
theorem kd_G_meets_173 : decode b_G_meets 173 = .ok (.iconst 2, 1) := by decide +kernel
theorem kd_G_meets_174 : decode b_G_meets 174 = .ok (.invokevirtual 33, 3) := by decide +kernel
theorem kd_G_meets_177 : decode b_G_meets 177 = .ok (.if_icmp .ne 15, 3) := by decide +kernel
theorem kd_G_meets_180 : decode b_G_meets 180 = .ok (.aload_n 0, 1) := by decide +kernel
theorem kd_G_meets_181 : decode b_G_meets 181 = .ok (.iconst 4, 1) := by decide +kernel
theorem kd_G_meets_182 : decode b_G_meets 182 = .ok (.invokevirtual 33, 3) := by decide +kernel
theorem kd_G_meets_185 : decode b_G_meets 185 = .ok (.ifCond .ne 7, 3) := by decide +kernel
theorem kd_G_meets_188 : decode b_G_meets 188 = .ok (.iconst 1, 1) := by decide +kernel
theorem kd_G_meets_189 : decode b_G_meets 189 = .ok (.goto 4, 3) := by decide +kernel
theorem kd_G_meets_192 : decode b_G_meets 192 = .ok (.iconst 0, 1) := by decide +kernel
theorem kd_G_meets_193 : decode b_G_meets 193 = .ok (.istore_n 2, 1) := by decide +kernel
theorem kd_G_meets_194 : decode b_G_meets 194 = .ok (.iload_n 2, 1) := by decide +kernel
theorem kd_G_meets_195 : decode b_G_meets 195 = .ok (.iload_n 1, 1) := by decide +kernel
theorem kd_G_meets_196 : decode b_G_meets 196 = .ok (.iconst 1, 1) := by decide +kernel
theorem kd_G_meets_197 : decode b_G_meets 197 = .ok (.iand, 1) := by decide +kernel
theorem kd_G_meets_198 : decode b_G_meets 198 = .ok (.ifCond .ne 7, 3) := by decide +kernel
theorem kd_G_meets_201 : decode b_G_meets 201 = .ok (.iconst 1, 1) := by decide +kernel
theorem kd_G_meets_202 : decode b_G_meets 202 = .ok (.goto 4, 3) := by decide +kernel
theorem kd_G_meets_205 : decode b_G_meets 205 = .ok (.iconst 0, 1) := by decide +kernel
theorem kd_G_meets_206 : decode b_G_meets 206 = .ok (.if_icmp .ne 7, 3) := by decide +kernel
theorem kd_G_meets_209 : decode b_G_meets 209 = .ok (.iconst 1, 1) := by decide +kernel
theorem kd_G_meets_210 : decode b_G_meets 210 = .ok (.goto 4, 3) := by decide +kernel
theorem kd_G_meets_213 : decode b_G_meets 213 = .ok (.iconst 0, 1) := by decide +kernel
theorem kd_G_meets_214 : decode b_G_meets 214 = .ok (.ireturn, 1) := by decide +kernel
noncomputable def f_G_meets_206 (s0 : ZS) (t0 : Int32) (t1 : Int32) : Option (Int32 × ZS) :=
  if t1 = t0 then
    some (1, s0)
  else
    some (0, s0)
noncomputable def f_G_meets_194 (s0 : ZS) (l1 : Int32) (l2 : Int32) : Option (Int32 × ZS) :=
  if (l1 &&& 1) = 0 then
    f_G_meets_206 s0 1 l2
  else
    f_G_meets_206 s0 0 l2
noncomputable def f_G_meets_70 (s0 : ZS) (l1 : Int32) (t0 : Int32) : Option (Int32 × ZS) :=
  f_G_meets_194 s0 l1 t0
noncomputable def f_G_meets_69 (s0 : ZS) (l1 : Int32) : Option (Int32 × ZS) :=
  f_G_meets_70 s0 l1 0
noncomputable def f_G_meets_87 (s0 : ZS) (l1 : Int32) (t0 : Int32) : Option (Int32 × ZS) :=
  f_G_meets_194 s0 l1 t0
noncomputable def f_G_meets_104 (s0 : ZS) (l1 : Int32) (t0 : Int32) : Option (Int32 × ZS) :=
  f_G_meets_194 s0 l1 t0
noncomputable def f_G_meets_121 (s0 : ZS) (l1 : Int32) (t0 : Int32) : Option (Int32 × ZS) :=
  f_G_meets_194 s0 l1 t0
noncomputable def f_G_meets_139 (s0 : ZS) (l1 : Int32) (t0 : Int32) : Option (Int32 × ZS) :=
  f_G_meets_194 s0 l1 t0
noncomputable def f_G_meets_162 (s0 : ZS) (l1 : Int32) (t0 : Int32) : Option (Int32 × ZS) :=
  f_G_meets_194 s0 l1 t0
noncomputable def f_G_meets_193 (s0 : ZS) (l1 : Int32) (t0 : Int32) : Option (Int32 × ZS) :=
  f_G_meets_194 s0 l1 t0
noncomputable def f_G_meets_192 (s0 : ZS) (l1 : Int32) : Option (Int32 × ZS) :=
  f_G_meets_193 s0 l1 0
noncomputable def f_G_meets (s0 : ZS) (x1 : Int32) : Option (Int32 × ZS) :=
  zs_nm (zo_shr x1 1) fun v1 =>
  if v1 = 0 then
    f_G_meets_194 s0 x1 1
  else if v1 = 1 then
    (f_G_has s0 1).bind fun p2 =>
    if p2.1 = 0 then
      (f_G_has p2.2 4).bind fun p3 =>
      if p3.1 = 0 then
        f_G_meets_70 p3.2 x1 1
      else
        f_G_meets_69 p3.2 x1
    else
      f_G_meets_69 p2.2 x1
  else if v1 = 2 then
    (f_G_has s0 1).bind fun p4 =>
    if p4.1 = 0 then
      f_G_meets_87 p4.2 x1 1
    else
      f_G_meets_87 p4.2 x1 0
  else if v1 = 3 then
    (f_G_has s0 4).bind fun p5 =>
    if p5.1 = 0 then
      f_G_meets_104 p5.2 x1 1
    else
      f_G_meets_104 p5.2 x1 0
  else if v1 = 4 then
    (f_G_has s0 2).bind fun p6 =>
    if p6.1 = 0 then
      f_G_meets_121 p6.2 x1 1
    else
      f_G_meets_121 p6.2 x1 0
  else if v1 = 5 then
    (f_G_has s0 8).bind fun p7 =>
    if p7.1 = 0 then
      f_G_meets_139 p7.2 x1 1
    else
      f_G_meets_139 p7.2 x1 0
  else if v1 = 6 then
    (f_G_has s0 8).bind fun p8 =>
    (f_G_has p8.2 2).bind fun p9 =>
    if p8.1 = p9.1 then
      f_G_meets_162 p9.2 x1 1
    else
      f_G_meets_162 p9.2 x1 0
  else 
    (f_G_has s0 8).bind fun p10 =>
    (f_G_has p10.2 2).bind fun p11 =>
    if p10.1 = p11.1 then
      (f_G_has p11.2 4).bind fun p12 =>
      if p12.1 = 0 then
        f_G_meets_193 p12.2 x1 1
      else
        f_G_meets_192 p12.2 x1
    else
      f_G_meets_192 p11.2 x1
theorem j_G_meets_206 {P : ZP} {E : ZE} {A : Nat → Prop} (X : ZX E (zcV P) A "FrameMachine$Registers" b_G_meets 3 (some .boolean) 1 21) (s0 : ZS) (t0 : Int32) (t1 : Int32) : ZJ E (zcV P) A 3 (zFi E (zcV P) A) 206 [] [.int t0, .int t1] s0 (f_G_meets_206 s0 t0 t1) := by
  unfold f_G_meets_206
  refine zj_icmp_ne 213 209 X kd_G_meets_206 rfl rfl (fun _ => ?_) (fun _ => ?_)
  · refine zj_iconst 210 1 X kd_G_meets_209 ki_1 rfl ?_
    refine zj_goto 214 X kd_G_meets_210 rfl ?_
    exact zj_zret X kd_G_meets_214 (Or.inr rfl)
  · refine zj_iconst 214 0 X kd_G_meets_213 ki_0 rfl ?_
    exact zj_zret X kd_G_meets_214 (Or.inl rfl)
theorem j_G_meets_194 {P : ZP} {E : ZE} {A : Nat → Prop} (X : ZX E (zcV P) A "FrameMachine$Registers" b_G_meets 3 (some .boolean) 1 21) (s0 : ZS) (l1 : Int32) (l2 : Int32) : ZJ E (zcV P) A 3 (zFi E (zcV P) A) 194 [(1, .int l1), (2, .int l2)] [] s0 (f_G_meets_194 s0 l1 l2) := by
  unfold f_G_meets_194
  refine zj_iload_n 195 1 X kd_G_meets_194 rfl rfl rfl ?_
  refine zj_iload_n 196 0 X kd_G_meets_195 rfl rfl rfl ?_
  refine zj_iconst 197 1 X kd_G_meets_196 ki_1 rfl ?_
  refine zj_iand 198 X kd_G_meets_197 rfl ?_
  refine zj_if_ne 205 201 X kd_G_meets_198 rfl rfl (fun _ => ?_) (fun _ => ?_)
  · refine zj_iconst 202 1 X kd_G_meets_201 ki_1 rfl ?_
    refine zj_goto 206 X kd_G_meets_202 rfl ?_
    refine zj_loc [] (L2 := []) rfl ?_
    exact j_G_meets_206 X s0 1 l2
  · refine zj_iconst 206 0 X kd_G_meets_205 ki_0 rfl ?_
    refine zj_loc [] (L2 := []) rfl ?_
    exact j_G_meets_206 X s0 0 l2
theorem j_G_meets_70 {P : ZP} {E : ZE} {A : Nat → Prop} (X : ZX E (zcV P) A "FrameMachine$Registers" b_G_meets 3 (some .boolean) 1 21) (s0 : ZS) (l1 : Int32) (t0 : Int32) : ZJ E (zcV P) A 3 (zFi E (zcV P) A) 70 [(1, .int l1)] [.int t0] s0 (f_G_meets_70 s0 l1 t0) := by
  unfold f_G_meets_70
  refine zj_istore_n 71 [(2, .int t0), (1, .int l1)] X kd_G_meets_70 rfl (Nat.le_of_ble_eq_true rfl) rfl rfl ?_
  refine zj_goto 194 X kd_G_meets_71 rfl ?_
  refine zj_loc [1, 0] (L2 := [(1, .int l1), (2, .int t0)]) rfl ?_
  exact j_G_meets_194 X s0 l1 t0
theorem j_G_meets_69 {P : ZP} {E : ZE} {A : Nat → Prop} (X : ZX E (zcV P) A "FrameMachine$Registers" b_G_meets 3 (some .boolean) 1 21) (s0 : ZS) (l1 : Int32) : ZJ E (zcV P) A 3 (zFi E (zcV P) A) 69 [(1, .int l1)] [] s0 (f_G_meets_69 s0 l1) := by
  unfold f_G_meets_69
  refine zj_iconst 70 0 X kd_G_meets_69 ki_0 rfl ?_
  exact j_G_meets_70 X s0 l1 0
theorem j_G_meets_87 {P : ZP} {E : ZE} {A : Nat → Prop} (X : ZX E (zcV P) A "FrameMachine$Registers" b_G_meets 3 (some .boolean) 1 21) (s0 : ZS) (l1 : Int32) (t0 : Int32) : ZJ E (zcV P) A 3 (zFi E (zcV P) A) 87 [(1, .int l1)] [.int t0] s0 (f_G_meets_87 s0 l1 t0) := by
  unfold f_G_meets_87
  refine zj_istore_n 88 [(2, .int t0), (1, .int l1)] X kd_G_meets_87 rfl (Nat.le_of_ble_eq_true rfl) rfl rfl ?_
  refine zj_goto 194 X kd_G_meets_88 rfl ?_
  refine zj_loc [1, 0] (L2 := [(1, .int l1), (2, .int t0)]) rfl ?_
  exact j_G_meets_194 X s0 l1 t0
theorem j_G_meets_104 {P : ZP} {E : ZE} {A : Nat → Prop} (X : ZX E (zcV P) A "FrameMachine$Registers" b_G_meets 3 (some .boolean) 1 21) (s0 : ZS) (l1 : Int32) (t0 : Int32) : ZJ E (zcV P) A 3 (zFi E (zcV P) A) 104 [(1, .int l1)] [.int t0] s0 (f_G_meets_104 s0 l1 t0) := by
  unfold f_G_meets_104
  refine zj_istore_n 105 [(2, .int t0), (1, .int l1)] X kd_G_meets_104 rfl (Nat.le_of_ble_eq_true rfl) rfl rfl ?_
  refine zj_goto 194 X kd_G_meets_105 rfl ?_
  refine zj_loc [1, 0] (L2 := [(1, .int l1), (2, .int t0)]) rfl ?_
  exact j_G_meets_194 X s0 l1 t0
theorem j_G_meets_121 {P : ZP} {E : ZE} {A : Nat → Prop} (X : ZX E (zcV P) A "FrameMachine$Registers" b_G_meets 3 (some .boolean) 1 21) (s0 : ZS) (l1 : Int32) (t0 : Int32) : ZJ E (zcV P) A 3 (zFi E (zcV P) A) 121 [(1, .int l1)] [.int t0] s0 (f_G_meets_121 s0 l1 t0) := by
  unfold f_G_meets_121
  refine zj_istore_n 122 [(2, .int t0), (1, .int l1)] X kd_G_meets_121 rfl (Nat.le_of_ble_eq_true rfl) rfl rfl ?_
  refine zj_goto 194 X kd_G_meets_122 rfl ?_
  refine zj_loc [1, 0] (L2 := [(1, .int l1), (2, .int t0)]) rfl ?_
  exact j_G_meets_194 X s0 l1 t0
theorem j_G_meets_139 {P : ZP} {E : ZE} {A : Nat → Prop} (X : ZX E (zcV P) A "FrameMachine$Registers" b_G_meets 3 (some .boolean) 1 21) (s0 : ZS) (l1 : Int32) (t0 : Int32) : ZJ E (zcV P) A 3 (zFi E (zcV P) A) 139 [(1, .int l1)] [.int t0] s0 (f_G_meets_139 s0 l1 t0) := by
  unfold f_G_meets_139
  refine zj_istore_n 140 [(2, .int t0), (1, .int l1)] X kd_G_meets_139 rfl (Nat.le_of_ble_eq_true rfl) rfl rfl ?_
  refine zj_goto 194 X kd_G_meets_140 rfl ?_
  refine zj_loc [1, 0] (L2 := [(1, .int l1), (2, .int t0)]) rfl ?_
  exact j_G_meets_194 X s0 l1 t0
theorem j_G_meets_162 {P : ZP} {E : ZE} {A : Nat → Prop} (X : ZX E (zcV P) A "FrameMachine$Registers" b_G_meets 3 (some .boolean) 1 21) (s0 : ZS) (l1 : Int32) (t0 : Int32) : ZJ E (zcV P) A 3 (zFi E (zcV P) A) 162 [(1, .int l1)] [.int t0] s0 (f_G_meets_162 s0 l1 t0) := by
  unfold f_G_meets_162
  refine zj_istore_n 163 [(2, .int t0), (1, .int l1)] X kd_G_meets_162 rfl (Nat.le_of_ble_eq_true rfl) rfl rfl ?_
  refine zj_goto 194 X kd_G_meets_163 rfl ?_
  refine zj_loc [1, 0] (L2 := [(1, .int l1), (2, .int t0)]) rfl ?_
  exact j_G_meets_194 X s0 l1 t0
theorem j_G_meets_193 {P : ZP} {E : ZE} {A : Nat → Prop} (X : ZX E (zcV P) A "FrameMachine$Registers" b_G_meets 3 (some .boolean) 1 21) (s0 : ZS) (l1 : Int32) (t0 : Int32) : ZJ E (zcV P) A 3 (zFi E (zcV P) A) 193 [(1, .int l1)] [.int t0] s0 (f_G_meets_193 s0 l1 t0) := by
  unfold f_G_meets_193
  refine zj_istore_n 194 [(2, .int t0), (1, .int l1)] X kd_G_meets_193 rfl (Nat.le_of_ble_eq_true rfl) rfl rfl ?_
  refine zj_loc [1, 0] (L2 := [(1, .int l1), (2, .int t0)]) rfl ?_
  exact j_G_meets_194 X s0 l1 t0
theorem j_G_meets_192 {P : ZP} {E : ZE} {A : Nat → Prop} (X : ZX E (zcV P) A "FrameMachine$Registers" b_G_meets 3 (some .boolean) 1 21) (s0 : ZS) (l1 : Int32) : ZJ E (zcV P) A 3 (zFi E (zcV P) A) 192 [(1, .int l1)] [] s0 (f_G_meets_192 s0 l1) := by
  unfold f_G_meets_192
  refine zj_iconst 193 0 X kd_G_meets_192 ki_0 rfl ?_
  exact j_G_meets_193 X s0 l1 0
theorem j_G_meets {P : ZP} {E : ZE} {A : Nat → Prop} (X : ZX E (zcV P) A "FrameMachine$Registers" b_G_meets 3 (some .boolean) 1 21) (s0 : ZS) (x1 : Int32) : ZJ E (zcV P) A 3 (zFi E (zcV P) A) 0 [(0, .ref (P.1 3)), (1, .int x1)] [] s0 (f_G_meets s0 x1) := by
  unfold f_G_meets
  refine zj_iload_n 1 1 X kd_G_meets_0 rfl rfl rfl ?_
  refine zj_iconst 2 1 X kd_G_meets_1 ki_1 rfl ?_
  refine zj_ishr 3 X kd_G_meets_2 rfl ?_
  refine zj_nmi (fun v1 => ?_)
  refine zj_tcase 44 X kd_G_meets_3 (by decide) (by decide) rfl rfl (fun _ => ?_) (fun h0 => ?_)
  · refine zj_iconst 45 1 X kd_G_meets_44 ki_1 rfl ?_
    refine zj_istore_n 46 [(2, .int 1), (0, .ref (P.1 3)), (1, .int x1)] X kd_G_meets_45 rfl (Nat.le_of_ble_eq_true rfl) rfl rfl ?_
    refine zj_goto 194 X kd_G_meets_46 rfl ?_
    refine zj_loc [2, 0] (L2 := [(1, .int x1), (2, .int 1)]) rfl ?_
    exact j_G_meets_194 X s0 x1 1
  refine zj_tcase 49 X kd_G_meets_3 (by decide) (by decide) rfl rfl (fun _ => ?_) (fun h1 => ?_)
  · refine zj_aload_n 50 0 X kd_G_meets_49 rfl rfl rfl ?_
    refine zj_iconst 51 1 X kd_G_meets_50 ki_1 rfl ?_
    refine mc_G_33 54 X kd_G_meets_51 (Nat.le_of_ble_eq_true rfl) (Nat.le_of_ble_eq_true rfl) (Nat.le_of_ble_eq_true rfl) rfl (fun p2 => ?_)
    refine zj_if_ne 69 57 X kd_G_meets_54 rfl rfl (fun _ => ?_) (fun _ => ?_)
    · refine zj_aload_n 58 0 X kd_G_meets_57 rfl rfl rfl ?_
      refine zj_iconst 59 4 X kd_G_meets_58 ki_4 rfl ?_
      refine mc_G_33 62 X kd_G_meets_59 (Nat.le_of_ble_eq_true rfl) (Nat.le_of_ble_eq_true rfl) (Nat.le_of_ble_eq_true rfl) rfl (fun p3 => ?_)
      refine zj_if_ne 69 65 X kd_G_meets_62 rfl rfl (fun _ => ?_) (fun _ => ?_)
      · refine zj_iconst 66 1 X kd_G_meets_65 ki_1 rfl ?_
        refine zj_goto 70 X kd_G_meets_66 rfl ?_
        refine zj_loc [1] (L2 := [(1, .int x1)]) rfl ?_
        exact j_G_meets_70 X p3.2 x1 1
      · refine zj_loc [1] (L2 := [(1, .int x1)]) rfl ?_
        exact j_G_meets_69 X p3.2 x1
    · refine zj_loc [1] (L2 := [(1, .int x1)]) rfl ?_
      exact j_G_meets_69 X p2.2 x1
  refine zj_tcase 74 X kd_G_meets_3 (by decide) (by decide) rfl rfl (fun _ => ?_) (fun h2 => ?_)
  · refine zj_aload_n 75 0 X kd_G_meets_74 rfl rfl rfl ?_
    refine zj_iconst 76 1 X kd_G_meets_75 ki_1 rfl ?_
    refine mc_G_33 79 X kd_G_meets_76 (Nat.le_of_ble_eq_true rfl) (Nat.le_of_ble_eq_true rfl) (Nat.le_of_ble_eq_true rfl) rfl (fun p4 => ?_)
    refine zj_if_ne 86 82 X kd_G_meets_79 rfl rfl (fun _ => ?_) (fun _ => ?_)
    · refine zj_iconst 83 1 X kd_G_meets_82 ki_1 rfl ?_
      refine zj_goto 87 X kd_G_meets_83 rfl ?_
      refine zj_loc [1] (L2 := [(1, .int x1)]) rfl ?_
      exact j_G_meets_87 X p4.2 x1 1
    · refine zj_iconst 87 0 X kd_G_meets_86 ki_0 rfl ?_
      refine zj_loc [1] (L2 := [(1, .int x1)]) rfl ?_
      exact j_G_meets_87 X p4.2 x1 0
  refine zj_tcase 91 X kd_G_meets_3 (by decide) (by decide) rfl rfl (fun _ => ?_) (fun h3 => ?_)
  · refine zj_aload_n 92 0 X kd_G_meets_91 rfl rfl rfl ?_
    refine zj_iconst 93 4 X kd_G_meets_92 ki_4 rfl ?_
    refine mc_G_33 96 X kd_G_meets_93 (Nat.le_of_ble_eq_true rfl) (Nat.le_of_ble_eq_true rfl) (Nat.le_of_ble_eq_true rfl) rfl (fun p5 => ?_)
    refine zj_if_ne 103 99 X kd_G_meets_96 rfl rfl (fun _ => ?_) (fun _ => ?_)
    · refine zj_iconst 100 1 X kd_G_meets_99 ki_1 rfl ?_
      refine zj_goto 104 X kd_G_meets_100 rfl ?_
      refine zj_loc [1] (L2 := [(1, .int x1)]) rfl ?_
      exact j_G_meets_104 X p5.2 x1 1
    · refine zj_iconst 104 0 X kd_G_meets_103 ki_0 rfl ?_
      refine zj_loc [1] (L2 := [(1, .int x1)]) rfl ?_
      exact j_G_meets_104 X p5.2 x1 0
  refine zj_tcase 108 X kd_G_meets_3 (by decide) (by decide) rfl rfl (fun _ => ?_) (fun h4 => ?_)
  · refine zj_aload_n 109 0 X kd_G_meets_108 rfl rfl rfl ?_
    refine zj_iconst 110 2 X kd_G_meets_109 ki_2 rfl ?_
    refine mc_G_33 113 X kd_G_meets_110 (Nat.le_of_ble_eq_true rfl) (Nat.le_of_ble_eq_true rfl) (Nat.le_of_ble_eq_true rfl) rfl (fun p6 => ?_)
    refine zj_if_ne 120 116 X kd_G_meets_113 rfl rfl (fun _ => ?_) (fun _ => ?_)
    · refine zj_iconst 117 1 X kd_G_meets_116 ki_1 rfl ?_
      refine zj_goto 121 X kd_G_meets_117 rfl ?_
      refine zj_loc [1] (L2 := [(1, .int x1)]) rfl ?_
      exact j_G_meets_121 X p6.2 x1 1
    · refine zj_iconst 121 0 X kd_G_meets_120 ki_0 rfl ?_
      refine zj_loc [1] (L2 := [(1, .int x1)]) rfl ?_
      exact j_G_meets_121 X p6.2 x1 0
  refine zj_tcase 125 X kd_G_meets_3 (by decide) (by decide) rfl rfl (fun _ => ?_) (fun h5 => ?_)
  · refine zj_aload_n 126 0 X kd_G_meets_125 rfl rfl rfl ?_
    refine zj_bipush 128 8 X kd_G_meets_126 kb_8 rfl ?_
    refine mc_G_33 131 X kd_G_meets_128 (Nat.le_of_ble_eq_true rfl) (Nat.le_of_ble_eq_true rfl) (Nat.le_of_ble_eq_true rfl) rfl (fun p7 => ?_)
    refine zj_if_ne 138 134 X kd_G_meets_131 rfl rfl (fun _ => ?_) (fun _ => ?_)
    · refine zj_iconst 135 1 X kd_G_meets_134 ki_1 rfl ?_
      refine zj_goto 139 X kd_G_meets_135 rfl ?_
      refine zj_loc [1] (L2 := [(1, .int x1)]) rfl ?_
      exact j_G_meets_139 X p7.2 x1 1
    · refine zj_iconst 139 0 X kd_G_meets_138 ki_0 rfl ?_
      refine zj_loc [1] (L2 := [(1, .int x1)]) rfl ?_
      exact j_G_meets_139 X p7.2 x1 0
  refine zj_tcase 143 X kd_G_meets_3 (by decide) (by decide) rfl rfl (fun _ => ?_) (fun h6 => ?_)
  · refine zj_aload_n 144 0 X kd_G_meets_143 rfl rfl rfl ?_
    refine zj_bipush 146 8 X kd_G_meets_144 kb_8 rfl ?_
    refine mc_G_33 149 X kd_G_meets_146 (Nat.le_of_ble_eq_true rfl) (Nat.le_of_ble_eq_true rfl) (Nat.le_of_ble_eq_true rfl) rfl (fun p8 => ?_)
    refine zj_aload_n 150 0 X kd_G_meets_149 rfl rfl rfl ?_
    refine zj_iconst 151 2 X kd_G_meets_150 ki_2 rfl ?_
    refine mc_G_33 154 X kd_G_meets_151 (Nat.le_of_ble_eq_true rfl) (Nat.le_of_ble_eq_true rfl) (Nat.le_of_ble_eq_true rfl) rfl (fun p9 => ?_)
    refine zj_icmp_ne 161 157 X kd_G_meets_154 rfl rfl (fun _ => ?_) (fun _ => ?_)
    · refine zj_iconst 158 1 X kd_G_meets_157 ki_1 rfl ?_
      refine zj_goto 162 X kd_G_meets_158 rfl ?_
      refine zj_loc [1] (L2 := [(1, .int x1)]) rfl ?_
      exact j_G_meets_162 X p9.2 x1 1
    · refine zj_iconst 162 0 X kd_G_meets_161 ki_0 rfl ?_
      refine zj_loc [1] (L2 := [(1, .int x1)]) rfl ?_
      exact j_G_meets_162 X p9.2 x1 0
  refine zj_tdef 166 X kd_G_meets_3 (by have h0 := lv_neT (a := 0) h0 rfl; have h1 := lv_neT (a := 1) h1 rfl; have h2 := lv_neT (a := 2) h2 rfl; have h3 := lv_neT (a := 3) h3 rfl; have h4 := lv_neT (a := 4) h4 rfl; have h5 := lv_neT (a := 5) h5 rfl; have h6 := lv_neT (a := 6) h6 rfl; omega) rfl ?_
  refine zj_aload_n 167 0 X kd_G_meets_166 rfl rfl rfl ?_
  refine zj_bipush 169 8 X kd_G_meets_167 kb_8 rfl ?_
  refine mc_G_33 172 X kd_G_meets_169 (Nat.le_of_ble_eq_true rfl) (Nat.le_of_ble_eq_true rfl) (Nat.le_of_ble_eq_true rfl) rfl (fun p10 => ?_)
  refine zj_aload_n 173 0 X kd_G_meets_172 rfl rfl rfl ?_
  refine zj_iconst 174 2 X kd_G_meets_173 ki_2 rfl ?_
  refine mc_G_33 177 X kd_G_meets_174 (Nat.le_of_ble_eq_true rfl) (Nat.le_of_ble_eq_true rfl) (Nat.le_of_ble_eq_true rfl) rfl (fun p11 => ?_)
  refine zj_icmp_ne 192 180 X kd_G_meets_177 rfl rfl (fun _ => ?_) (fun _ => ?_)
  · refine zj_aload_n 181 0 X kd_G_meets_180 rfl rfl rfl ?_
    refine zj_iconst 182 4 X kd_G_meets_181 ki_4 rfl ?_
    refine mc_G_33 185 X kd_G_meets_182 (Nat.le_of_ble_eq_true rfl) (Nat.le_of_ble_eq_true rfl) (Nat.le_of_ble_eq_true rfl) rfl (fun p12 => ?_)
    refine zj_if_ne 192 188 X kd_G_meets_185 rfl rfl (fun _ => ?_) (fun _ => ?_)
    · refine zj_iconst 189 1 X kd_G_meets_188 ki_1 rfl ?_
      refine zj_goto 193 X kd_G_meets_189 rfl ?_
      refine zj_loc [1] (L2 := [(1, .int x1)]) rfl ?_
      exact j_G_meets_193 X p12.2 x1 1
    · refine zj_loc [1] (L2 := [(1, .int x1)]) rfl ?_
      exact j_G_meets_192 X p12.2 x1
  · refine zj_loc [1] (L2 := [(1, .int x1)]) rfl ?_
    exact j_G_meets_192 X p11.2 x1
theorem c_G_meets {l : Launch} {P : ZP} (hV : ZVok (zcV P)) (s0 : ZS) (x1 : Int32) {z : Int32 × ZS} (h : f_G_meets s0 x1 = some z) : zMi l y_G_meets b_G_meets 3 (some .boolean) 1 21 (zcV P) s0 [.ref (P.1 3), .int x1] z :=
  zMi_of (by decide +kernel) rfl rfl (Nat.le_of_ble_eq_true rfl) hV (fun _ X => j_G_meets X s0 x1) h
theorem kc_P_261 : zCV "FrameMachine$Processor" 261 y_G_meets b_G_meets 3 (some .boolean) 1 := ⟨⟨kw_704, kw_705, kw_706, kw_4, kw_707⟩, by decide +kernel, by decide +kernel, by decide +kernel⟩
theorem mc_P_261 {ρ : Type} {E : ZE} {P : ZP} {A : Nat → Prop} {cc : ByteArray} {nL : Nat} {ret : Option FieldType} {fr lo : Nat} {F : ρ → State → Prop} {pc : Nat} {L : List (Nat × Value)} {rest : List Value} {σ : ZS} {x1 : Int32} {K : Int32 × ZS → Option ρ} (q : Nat) (X : ZX E (zcV P) A "FrameMachine$Processor" cc nL ret fr lo) (d : decode cc pc = .ok (.invokevirtual 261, 3)) (hfr : 1 + 1 ≤ fr) (hlo : 8 + (3 + 11) + 21 ≤ lo) (hr : (rest.map fun v => v.category).sum ≤ 8) (hq : pc + 3 = q) (kk : ∀ p : Int32 × ZS, ZJ E (zcV P) A nL F q L (.int p.1 :: rest) p.2 (K p)) : ZJ E (zcV P) A nL F pc L (.int x1 :: .ref (P.1 3) :: rest) σ ((f_G_meets σ x1).bind K) :=
  zj_cVi q 3 3 (As := [.int x1]) (rest := rest) X kc_P_261 hfr hlo (fun p h => c_G_meets (zx_v X) σ x1 h) rfl rfl rfl hr d hq kk
-- FrameMachine$Processor.call(I)V
theorem kd_P_call_0 : decode b_P_call 0 = .ok (.aload_n 0, 1) := by decide +kernel
theorem kd_P_call_1 : decode b_P_call 1 = .ok (.getfield 26, 3) := by decide +kernel
theorem kd_P_call_4 : decode b_P_call 4 = .ok (.iconst 2, 1) := by decide +kernel
theorem kd_P_call_5 : decode b_P_call 5 = .ok (.aload_n 0, 1) := by decide +kernel
theorem kd_P_call_6 : decode b_P_call 6 = .ok (.getfield 22, 3) := by decide +kernel
theorem kd_P_call_9 : decode b_P_call 9 = .ok (.getfield 85, 3) := by decide +kernel
theorem kd_P_call_12 : decode b_P_call 12 = .ok (.invokevirtual 264, 3) := by decide +kernel
theorem kd_P_call_15 : decode b_P_call 15 = .ok (.aload_n 0, 1) := by decide +kernel
theorem kd_P_call_16 : decode b_P_call 16 = .ok (.getfield 18, 3) := by decide +kernel
theorem kd_P_call_19 : decode b_P_call 19 = .ok (.getfield 117, 3) := by decide +kernel
theorem kd_P_call_22 : decode b_P_call 22 = .ok (.ifCond .ne 11, 3) := by decide +kernel
theorem kd_P_call_25 : decode b_P_call 25 = .ok (.aload_n 0, 1) := by decide +kernel
theorem kd_P_call_26 : decode b_P_call 26 = .ok (.getfield 22, 3) := by decide +kernel
theorem kd_P_call_29 : decode b_P_call 29 = .ok (.iload_n 1, 1) := by decide +kernel
theorem kd_P_call_30 : decode b_P_call 30 = .ok (.putfield 85, 3) := by decide +kernel
theorem kd_P_call_33 : decode b_P_call 33 = .ok (.return_, 1) := by decide +kernel
noncomputable def f_P_call (s0 : ZS) (x1 : Int32) : Option (ZS) :=
  (f_Q_push s0 2 (s0 0 14)).bind fun s1 =>
  if (s1 0 10) = 0 then
    zs_nm (zs_up s1 0 14 x1) fun s2 =>
    some s2
  else
    some s1
theorem j_P_call {P : ZP} {E : ZE} {A : Nat → Prop} (X : ZX E (zcV P) A "FrameMachine$Processor" b_P_call 2 none 3 72) (s0 : ZS) (x1 : Int32) : ZJ E (zcV P) A 2 (zFv E (zcV P) A) 0 [(0, .ref (P.1 6)), (1, .int x1)] [] s0 (f_P_call s0 x1) := by
  unfold f_P_call
  refine zj_aload_n 1 0 X kd_P_call_0 rfl rfl rfl ?_
  refine gf_P_26 4 X kd_P_call_1 rfl ?_
  refine zj_iconst 5 2 X kd_P_call_4 ki_2 rfl ?_
  refine zj_aload_n 6 0 X kd_P_call_5 rfl rfl rfl ?_
  refine gf_P_22 9 X kd_P_call_6 rfl ?_
  refine gf_P_85 12 X kd_P_call_9 rfl ?_
  refine mc_P_264 15 X kd_P_call_12 (Nat.le_of_ble_eq_true rfl) (Nat.le_of_ble_eq_true rfl) (Nat.le_of_ble_eq_true rfl) rfl (fun s1 => ?_)
  refine zj_aload_n 16 0 X kd_P_call_15 rfl rfl rfl ?_
  refine gf_P_18 19 X kd_P_call_16 rfl ?_
  refine gf_P_117 22 X kd_P_call_19 rfl ?_
  refine zj_if_ne 33 25 X kd_P_call_22 rfl rfl (fun _ => ?_) (fun _ => ?_)
  · refine zj_aload_n 26 0 X kd_P_call_25 rfl rfl rfl ?_
    refine gf_P_22 29 X kd_P_call_26 rfl ?_
    refine zj_iload_n 30 1 X kd_P_call_29 rfl rfl rfl ?_
    refine pf_P_85 33 X kd_P_call_30 rfl ?_
    refine zj_nms (fun s2 => ?_)
    exact zj_vret X kd_P_call_33
  · exact zj_vret X kd_P_call_33
theorem c_P_call {l : Launch} {P : ZP} (hV : ZVok (zcV P)) (s0 : ZS) (x1 : Int32) {z : ZS} (h : f_P_call s0 x1 = some z) : zMv l y_P_call b_P_call 2 none 3 72 (zcV P) s0 [.ref (P.1 6), .int x1] z :=
  zMv_of (by decide +kernel) rfl rfl (Nat.le_of_ble_eq_true rfl) hV (fun _ X => j_P_call X s0 x1) h
theorem kc_P_225 : zCV "FrameMachine$Processor" 225 y_P_call b_P_call 2 none 1 := ⟨⟨kw_699, kw_701, ksel_21, kw_7, kw_702⟩, by decide +kernel, by decide +kernel, by decide +kernel⟩
theorem mc_P_225 {ρ : Type} {E : ZE} {P : ZP} {A : Nat → Prop} {cc : ByteArray} {nL : Nat} {ret : Option FieldType} {fr lo : Nat} {F : ρ → State → Prop} {pc : Nat} {L : List (Nat × Value)} {rest : List Value} {σ : ZS} {x1 : Int32} {K : ZS → Option ρ} (q : Nat) (X : ZX E (zcV P) A "FrameMachine$Processor" cc nL ret fr lo) (d : decode cc pc = .ok (.invokevirtual 225, 3)) (hfr : 3 + 1 ≤ fr) (hlo : 8 + (2 + 11) + 72 ≤ lo) (hr : (rest.map fun v => v.category).sum ≤ 8) (hq : pc + 3 = q) (kk : ∀ p : ZS, ZJ E (zcV P) A nL F q L (rest) p (K p)) : ZJ E (zcV P) A nL F pc L (.int x1 :: .ref (P.1 6) :: rest) σ ((f_P_call σ x1).bind K) :=
  zj_cVv q 6 6 (As := [.int x1]) (rest := rest) X kc_P_225 hfr hlo (fun p h => c_P_call (zx_v X) σ x1 h) rfl rfl rfl hr d hq kk
-- FrameMachine$Processor.branch()V
theorem kd_P_branch_0 : decode b_P_branch 0 = .ok (.aload_n 0, 1) := by decide +kernel
theorem kd_P_branch_1 : decode b_P_branch 1 = .ok (.getfield 22, 3) := by decide +kernel
theorem kd_P_branch_4 : decode b_P_branch 4 = .ok (.getfield 85, 3) := by decide +kernel
theorem kd_P_branch_7 : decode b_P_branch 7 = .ok (.istore_n 1, 1) := by decide +kernel
theorem kd_P_branch_8 : decode b_P_branch 8 = .ok (.iload_n 1, 1) := by decide +kernel
theorem kd_P_branch_9 : decode b_P_branch 9 = .ok (.aload_n 0, 1) := by decide +kernel
theorem kd_P_branch_10 : decode b_P_branch 10 = .ok (.getfield 26, 3) := by decide +kernel
theorem kd_P_branch_13 : decode b_P_branch 13 = .ok (.invokevirtual 126, 3) := by decide +kernel
theorem kd_P_branch_16 : decode b_P_branch 16 = .ok (.i2s, 1) := by decide +kernel
theorem kd_P_branch_17 : decode b_P_branch 17 = .ok (.iadd, 1) := by decide +kernel
theorem kd_P_branch_18 : decode b_P_branch 18 = .ok (.istore_n 2, 1) := by decide +kernel
theorem kd_P_branch_19 : decode b_P_branch 19 = .ok (.aload_n 0, 1) := by decide +kernel
theorem kd_P_branch_20 : decode b_P_branch 20 = .ok (.getfield 18, 3) := by decide +kernel
theorem kd_P_branch_23 : decode b_P_branch 23 = .ok (.getfield 117, 3) := by decide +kernel
theorem kd_P_branch_26 : decode b_P_branch 26 = .ok (.ifCond .eq 4, 3) := by decide +kernel
theorem kd_P_branch_29 : decode b_P_branch 29 = .ok (.return_, 1) := by decide +kernel
theorem kd_P_branch_30 : decode b_P_branch 30 = .ok (.aload_n 0, 1) := by decide +kernel
theorem kd_P_branch_31 : decode b_P_branch 31 = .ok (.getfield 12, 3) := by decide +kernel
theorem kd_P_branch_34 : decode b_P_branch 34 = .ok (.invokevirtual 258, 3) := by decide +kernel
theorem kd_P_branch_37 : decode b_P_branch 37 = .ok (.iconst 1, 1) := by decide +kernel
theorem kd_P_branch_38 : decode b_P_branch 38 = .ok (.if_icmp .ne 11, 3) := by decide +kernel
theorem kd_P_branch_41 : decode b_P_branch 41 = .ok (.aload_n 0, 1) := by decide +kernel
theorem kd_P_branch_42 : decode b_P_branch 42 = .ok (.iload_n 2, 1) := by decide +kernel
theorem kd_P_branch_43 : decode b_P_branch 43 = .ok (.invokevirtual 225, 3) := by decide +kernel
theorem kd_P_branch_46 : decode b_P_branch 46 = .ok (.goto 28, 3) := by decide +kernel
theorem kd_P_branch_49 : decode b_P_branch 49 = .ok (.aload_n 0, 1) := by decide +kernel
theorem kd_P_branch_50 : decode b_P_branch 50 = .ok (.getfield 22, 3) := by decide +kernel
theorem kd_P_branch_53 : decode b_P_branch 53 = .ok (.aload_n 0, 1) := by decide +kernel
theorem kd_P_branch_54 : decode b_P_branch 54 = .ok (.getfield 12, 3) := by decide +kernel
theorem kd_P_branch_57 : decode b_P_branch 57 = .ok (.invokevirtual 258, 3) := by decide +kernel
theorem kd_P_branch_60 : decode b_P_branch 60 = .ok (.invokevirtual 261, 3) := by decide +kernel
theorem kd_P_branch_63 : decode b_P_branch 63 = .ok (.ifCond .eq 11, 3) := by decide +kernel
theorem kd_P_branch_66 : decode b_P_branch 66 = .ok (.aload_n 0, 1) := by decide +kernel
theorem kd_P_branch_67 : decode b_P_branch 67 = .ok (.getfield 22, 3) := by decide +kernel
theorem kd_P_branch_70 : decode b_P_branch 70 = .ok (.iload_n 2, 1) := by decide +kernel
theorem kd_P_branch_71 : decode b_P_branch 71 = .ok (.putfield 85, 3) := by decide +kernel
theorem kd_P_branch_74 : decode b_P_branch 74 = .ok (.return_, 1) := by decide +kernel
noncomputable def f_P_branch (s0 : ZS)  : Option (ZS) :=
  zs_nm (s0 0 14) fun v1 =>
  (f_Q_nextWord s0 ).bind fun p2 =>
  zs_nm (v1 + (p2.1.toInt16.toInt32)) fun v3 =>
  if (p2.2 0 10) = 0 then
    (f_I_condition p2.2 ).bind fun p4 =>
    if p4.1 = 1 then
      (f_P_call p4.2 v3).bind fun s8 =>
      some s8
    else
      (f_I_condition p4.2 ).bind fun p5 =>
      (f_G_meets p5.2 p5.1).bind fun p6 =>
      if p6.1 = 0 then
        some p6.2
      else
        zs_nm (zs_up p6.2 0 14 v3) fun s7 =>
        some s7
  else
    some p2.2
theorem j_P_branch {P : ZP} {E : ZE} {A : Nat → Prop} (X : ZX E (zcV P) A "FrameMachine$Processor" b_P_branch 3 none 4 93) (s0 : ZS)  : ZJ E (zcV P) A 3 (zFv E (zcV P) A) 0 [(0, .ref (P.1 6))] [] s0 (f_P_branch s0) := by
  unfold f_P_branch
  refine zj_aload_n 1 0 X kd_P_branch_0 rfl rfl rfl ?_
  refine gf_P_22 4 X kd_P_branch_1 rfl ?_
  refine gf_P_85 7 X kd_P_branch_4 rfl ?_
  refine zj_nmi (fun v1 => ?_)
  refine zj_istore_n 8 [(1, .int v1), (0, .ref (P.1 6))] X kd_P_branch_7 rfl (Nat.le_of_ble_eq_true rfl) rfl rfl ?_
  refine zj_iload_n 9 0 X kd_P_branch_8 rfl rfl rfl ?_
  refine zj_aload_n 10 1 X kd_P_branch_9 rfl rfl rfl ?_
  refine gf_P_26 13 X kd_P_branch_10 rfl ?_
  refine mc_P_126 16 X kd_P_branch_13 (Nat.le_of_ble_eq_true rfl) (Nat.le_of_ble_eq_true rfl) (Nat.le_of_ble_eq_true rfl) rfl (fun p2 => ?_)
  refine zj_i2s 17 X kd_P_branch_16 rfl ?_
  refine zj_iadd 18 X kd_P_branch_17 rfl ?_
  refine zj_nmi (fun v3 => ?_)
  refine zj_istore_n 19 [(2, .int v3), (1, .int v1), (0, .ref (P.1 6))] X kd_P_branch_18 rfl (Nat.le_of_ble_eq_true rfl) rfl rfl ?_
  refine zj_aload_n 20 2 X kd_P_branch_19 rfl rfl rfl ?_
  refine gf_P_18 23 X kd_P_branch_20 rfl ?_
  refine gf_P_117 26 X kd_P_branch_23 rfl ?_
  refine zj_if_eq 30 29 X kd_P_branch_26 rfl rfl (fun _ => ?_) (fun _ => ?_)
  · refine zj_aload_n 31 2 X kd_P_branch_30 rfl rfl rfl ?_
    refine gf_P_12 34 X kd_P_branch_31 rfl ?_
    refine mc_P_258 37 X kd_P_branch_34 (Nat.le_of_ble_eq_true rfl) (Nat.le_of_ble_eq_true rfl) (Nat.le_of_ble_eq_true rfl) rfl (fun p4 => ?_)
    refine zj_iconst 38 1 X kd_P_branch_37 ki_1 rfl ?_
    refine zj_icmp_ne 49 41 X kd_P_branch_38 rfl rfl (fun _ => ?_) (fun _ => ?_)
    · refine zj_aload_n 42 2 X kd_P_branch_41 rfl rfl rfl ?_
      refine zj_iload_n 43 0 X kd_P_branch_42 rfl rfl rfl ?_
      refine mc_P_225 46 X kd_P_branch_43 (Nat.le_of_ble_eq_true rfl) (Nat.le_of_ble_eq_true rfl) (Nat.le_of_ble_eq_true rfl) rfl (fun s8 => ?_)
      refine zj_goto 74 X kd_P_branch_46 rfl ?_
      exact zj_vret X kd_P_branch_74
    · refine zj_aload_n 50 2 X kd_P_branch_49 rfl rfl rfl ?_
      refine gf_P_22 53 X kd_P_branch_50 rfl ?_
      refine zj_aload_n 54 2 X kd_P_branch_53 rfl rfl rfl ?_
      refine gf_P_12 57 X kd_P_branch_54 rfl ?_
      refine mc_P_258 60 X kd_P_branch_57 (Nat.le_of_ble_eq_true rfl) (Nat.le_of_ble_eq_true rfl) (Nat.le_of_ble_eq_true rfl) rfl (fun p5 => ?_)
      refine mc_P_261 63 X kd_P_branch_60 (Nat.le_of_ble_eq_true rfl) (Nat.le_of_ble_eq_true rfl) (Nat.le_of_ble_eq_true rfl) rfl (fun p6 => ?_)
      refine zj_if_eq 74 66 X kd_P_branch_63 rfl rfl (fun _ => ?_) (fun _ => ?_)
      · exact zj_vret X kd_P_branch_74
      · refine zj_aload_n 67 2 X kd_P_branch_66 rfl rfl rfl ?_
        refine gf_P_22 70 X kd_P_branch_67 rfl ?_
        refine zj_iload_n 71 0 X kd_P_branch_70 rfl rfl rfl ?_
        refine pf_P_85 74 X kd_P_branch_71 rfl ?_
        refine zj_nms (fun s7 => ?_)
        exact zj_vret X kd_P_branch_74
  · exact zj_vret X kd_P_branch_29
theorem c_P_branch {l : Launch} {P : ZP} (hV : ZVok (zcV P)) (s0 : ZS)  {z : ZS} (h : f_P_branch s0  = some z) : zMv l y_P_branch b_P_branch 3 none 4 93 (zcV P) s0 [.ref (P.1 6)] z :=
  zMv_of (by decide +kernel) rfl rfl (Nat.le_of_ble_eq_true rfl) hV (fun _ X => j_P_branch X s0 ) h
theorem kc_P_222 : zCV "FrameMachine$Processor" 222 y_P_branch b_P_branch 3 none 0 := ⟨⟨kw_694, kw_696, ksel_20, kw_7, kw_697⟩, by decide +kernel, by decide +kernel, by decide +kernel⟩
theorem mc_P_222 {ρ : Type} {E : ZE} {P : ZP} {A : Nat → Prop} {cc : ByteArray} {nL : Nat} {ret : Option FieldType} {fr lo : Nat} {F : ρ → State → Prop} {pc : Nat} {L : List (Nat × Value)} {rest : List Value} {σ : ZS}  {K : ZS → Option ρ} (q : Nat) (X : ZX E (zcV P) A "FrameMachine$Processor" cc nL ret fr lo) (d : decode cc pc = .ok (.invokevirtual 222, 3)) (hfr : 4 + 1 ≤ fr) (hlo : 8 + (3 + 11) + 93 ≤ lo) (hr : (rest.map fun v => v.category).sum ≤ 8) (hq : pc + 3 = q) (kk : ∀ p : ZS, ZJ E (zcV P) A nL F q L (rest) p (K p)) : ZJ E (zcV P) A nL F pc L (.ref (P.1 6) :: rest) σ ((f_P_branch σ ).bind K) :=
  zj_cVv q 6 6 (As := []) (rest := rest) X kc_P_222 hfr hlo (fun p h => c_P_branch (zx_v X) σ  h) rfl rfl rfl hr d hq kk
