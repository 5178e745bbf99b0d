-- FrameMachineModel.checks(IJ)V
theorem kd_M_checks_0 : decode b_M_checks 0 = .ok (.aload_n 0, 1) := by decide +kernel
theorem kd_M_checks_1 : decode b_M_checks 1 = .ok (.getfield 64, 3) := by decide +kernel
theorem kd_M_checks_4 : decode b_M_checks 4 = .ok (.ifCond .eq 4, 3) := by decide +kernel
theorem kd_M_checks_7 : decode b_M_checks 7 = .ok (.return_, 1) := by decide +kernel
theorem kd_M_checks_8 : decode b_M_checks 8 = .ok (.aload_n 0, 1) := by decide +kernel
theorem kd_M_checks_9 : decode b_M_checks 9 = .ok (.getfield 13, 3) := by decide +kernel
theorem kd_M_checks_12 : decode b_M_checks 12 = .ok (.iload_n 1, 1) := by decide +kernel
theorem kd_M_checks_13 : decode b_M_checks 13 = .ok (.iaload, 1) := by decide +kernel
theorem kd_M_checks_14 : decode b_M_checks 14 = .ok (.i2l, 1) := by decide +kernel
theorem kd_M_checks_15 : decode b_M_checks 15 = .ok (.iconst 1, 1) := by decide +kernel
theorem kd_M_checks_16 : decode b_M_checks 16 = .ok (.invokestatic 161, 3) := by decide +kernel
theorem kd_M_checks_19 : decode b_M_checks 19 = .ok (.iconst 1, 1) := by decide +kernel
theorem kd_M_checks_20 : decode b_M_checks 20 = .ok (.invokestatic 154, 3) := by decide +kernel
theorem kd_M_checks_23 : decode b_M_checks 23 = .ok (.istore 4, 2) := by decide +kernel
theorem kd_M_checks_25 : decode b_M_checks 25 = .ok (.iload 4, 2) := by decide +kernel
theorem kd_M_checks_27 : decode b_M_checks 27 = .ok (.ifCond .lt 13, 3) := by decide +kernel
theorem kd_M_checks_30 : decode b_M_checks 30 = .ok (.iload 4, 2) := by decide +kernel
theorem kd_M_checks_32 : decode b_M_checks 32 = .ok (.lload_n 2, 1) := by decide +kernel
theorem kd_M_checks_33 : decode b_M_checks 33 = .ok (.iconst 1, 1) := by decide +kernel
theorem kd_M_checks_34 : decode b_M_checks 34 = .ok (.invokestatic 154, 3) := by decide +kernel
theorem kd_M_checks_37 : decode b_M_checks 37 = .ok (.if_icmp .le 23, 3) := by decide +kernel
theorem kd_M_checks_40 : decode b_M_checks 40 = .ok (.aload_n 0, 1) := by decide +kernel
theorem kd_M_checks_41 : decode b_M_checks 41 = .ok (.iload 4, 2) := by decide +kernel
theorem kd_M_checks_43 : decode b_M_checks 43 = .ok (.ifCond .ge 7, 3) := by decide +kernel
theorem kd_M_checks_46 : decode b_M_checks 46 = .ok (.iconst 1, 1) := by decide +kernel
theorem kd_M_checks_47 : decode b_M_checks 47 = .ok (.goto 4, 3) := by decide +kernel
theorem kd_M_checks_50 : decode b_M_checks 50 = .ok (.iconst 0, 1) := by decide +kernel
theorem kd_M_checks_51 : decode b_M_checks 51 = .ok (.putfield 125, 3) := by decide +kernel
theorem kd_M_checks_54 : decode b_M_checks 54 = .ok (.aload_n 0, 1) := by decide +kernel
theorem kd_M_checks_55 : decode b_M_checks 55 = .ok (.bipush 6, 2) := by decide +kernel
theorem kd_M_checks_57 : decode b_M_checks 57 = .ok (.putfield 174, 3) := by decide +kernel
theorem kd_M_checks_60 : decode b_M_checks 60 = .ok (.return_, 1) := by decide +kernel
noncomputable def f_M_checks_51 (s0 : ZS) (t0 : Int32) : Option (ZS) :=
  zs_nm (zs_up s0 0 7 t0) fun s3 =>
  zs_nm (zs_up s3 0 19 6) fun s4 =>
  some s4
noncomputable def f_M_checks_40 (s0 : ZS) (l4 : Int32) : Option (ZS) :=
  if 0 ≤ l4 then
    f_M_checks_51 s0 0
  else
    f_M_checks_51 s0 1
noncomputable def f_M_checks (s0 : ZS) (x1 : Int32) (x2 : Int64) : Option (ZS) :=
  if (s0 0 15) = 0 then
    if x1 < 0 ∨ 8 ≤ x1.toNatClampNeg then none else
    (f_M_cut s0 ((s0 2 x1.toNatClampNeg).toInt64) 1).bind fun p1 =>
    (f_M_signed p1.2 p1.1 1).bind fun p2 =>
    if p2.1 < 0 then
      f_M_checks_40 p2.2 p2.1
    else
      (f_M_signed p2.2 x2 1).bind fun p5 =>
      if p2.1 ≤ p5.1 then
        some p5.2
      else
        f_M_checks_40 p5.2 p2.1
  else
    some s0
theorem j_M_checks_51 {P : ZP} {E : ZE} {A : Nat → Prop} (X : ZX E (zmV P) A "FrameMachineModel" b_M_checks 5 none 2 42) (s0 : ZS) (t0 : Int32) : ZJ E (zmV P) A 5 (zFv E (zmV P) A) 51 [(0, .ref (P.1 0))] [.int t0, .ref (P.1 0)] s0 (f_M_checks_51 s0 t0) := by
  unfold f_M_checks_51
  refine pf_M_125 54 X kd_M_checks_51 rfl ?_
  refine zj_nms (fun s3 => ?_)
  refine zj_aload_n 55 0 X kd_M_checks_54 rfl rfl rfl ?_
  refine zj_bipush 57 6 X kd_M_checks_55 kb_6 rfl ?_
  refine pf_M_174 60 X kd_M_checks_57 rfl ?_
  refine zj_nms (fun s4 => ?_)
  exact zj_vret X kd_M_checks_60
theorem j_M_checks_40 {P : ZP} {E : ZE} {A : Nat → Prop} (X : ZX E (zmV P) A "FrameMachineModel" b_M_checks 5 none 2 42) (s0 : ZS) (l4 : Int32) : ZJ E (zmV P) A 5 (zFv E (zmV P) A) 40 [(0, .ref (P.1 0)), (4, .int l4)] [] s0 (f_M_checks_40 s0 l4) := by
  unfold f_M_checks_40
  refine zj_aload_n 41 0 X kd_M_checks_40 rfl rfl rfl ?_
  refine zj_iload 43 1 X kd_M_checks_41 rfl rfl ?_
  refine zj_if_ge 50 46 X kd_M_checks_43 rfl rfl (fun _ => ?_) (fun _ => ?_)
  · refine zj_iconst 51 0 X kd_M_checks_50 ki_0 rfl ?_
    refine zj_loc [0] (L2 := [(0, .ref (P.1 0))]) rfl ?_
    exact j_M_checks_51 X s0 0
  · refine zj_iconst 47 1 X kd_M_checks_46 ki_1 rfl ?_
    refine zj_goto 51 X kd_M_checks_47 rfl ?_
    refine zj_loc [0] (L2 := [(0, .ref (P.1 0))]) rfl ?_
    exact j_M_checks_51 X s0 1
theorem j_M_checks {P : ZP} {E : ZE} {A : Nat → Prop} (X : ZX E (zmV P) A "FrameMachineModel" b_M_checks 5 none 2 42) (s0 : ZS) (x1 : Int32) (x2 : Int64) : ZJ E (zmV P) A 5 (zFv E (zmV P) A) 0 [(0, .ref (P.1 0)), (1, .int x1), (2, .long x2)] [] s0 (f_M_checks s0 x1 x2) := by
  unfold f_M_checks
  refine zj_aload_n 1 0 X kd_M_checks_0 rfl rfl rfl ?_
  refine gf_M_64 4 X kd_M_checks_1 rfl ?_
  refine zj_if_eq 8 7 X kd_M_checks_4 rfl rfl (fun _ => ?_) (fun _ => ?_)
  · refine zj_aload_n 9 0 X kd_M_checks_8 rfl rfl rfl ?_
    refine gf_M_13 12 X kd_M_checks_9 rfl ?_
    refine zj_iload_n 13 1 X kd_M_checks_12 rfl rfl rfl ?_
    refine zj_ng (fun hg => ?_)
    refine al_M_2 14 X kd_M_checks_13 hg rfl ?_
    refine zj_i2l 15 X kd_M_checks_14 rfl ?_
    refine zj_iconst 16 1 X kd_M_checks_15 ki_1 rfl ?_
    refine mc_M_161 19 X kd_M_checks_16 (Nat.le_of_ble_eq_true rfl) (Nat.le_of_ble_eq_true rfl) (Nat.le_of_ble_eq_true rfl) rfl (fun p1 => ?_)
    refine zj_iconst 20 1 X kd_M_checks_19 ki_1 rfl ?_
    refine mc_M_154 23 X kd_M_checks_20 (Nat.le_of_ble_eq_true rfl) (Nat.le_of_ble_eq_true rfl) (Nat.le_of_ble_eq_true rfl) rfl (fun p2 => ?_)
    refine zj_istore 25 [(4, .int p2.1), (0, .ref (P.1 0)), (1, .int x1), (2, .long x2)] X kd_M_checks_23 (Nat.le_of_ble_eq_true rfl) rfl rfl ?_
    refine zj_iload 27 0 X kd_M_checks_25 rfl rfl ?_
    refine zj_if_lt 40 30 X kd_M_checks_27 rfl rfl (fun _ => ?_) (fun _ => ?_)
    · refine zj_loc [1, 0] (L2 := [(0, .ref (P.1 0)), (4, .int p2.1)]) rfl ?_
      exact j_M_checks_40 X p2.2 p2.1
    · refine zj_iload 32 0 X kd_M_checks_30 rfl rfl ?_
      refine zj_lload_n 33 3 X kd_M_checks_32 rfl rfl rfl ?_
      refine zj_iconst 34 1 X kd_M_checks_33 ki_1 rfl ?_
      refine mc_M_154 37 X kd_M_checks_34 (Nat.le_of_ble_eq_true rfl) (Nat.le_of_ble_eq_true rfl) (Nat.le_of_ble_eq_true rfl) rfl (fun p5 => ?_)
      refine zj_icmp_le 60 40 X kd_M_checks_37 rfl rfl (fun _ => ?_) (fun _ => ?_)
      · exact zj_vret X kd_M_checks_60
      · refine zj_loc [1, 0] (L2 := [(0, .ref (P.1 0)), (4, .int p2.1)]) rfl ?_
        exact j_M_checks_40 X p5.2 p2.1
  · exact zj_vret X kd_M_checks_7
theorem c_M_checks {l : Launch} {P : ZP} (hV : ZVok (zmV P)) (s0 : ZS) (x1 : Int32) (x2 : Int64) {z : ZS} (h : f_M_checks s0 x1 x2 = some z) : zMv l y_M_checks b_M_checks 5 none 2 42 (zmV P) s0 [.ref (P.1 0), .int x1, .long x2] z :=
  zMv_of (by decide +kernel) rfl rfl (Nat.le_of_ble_eq_true rfl) hV (fun _ X => j_M_checks X s0 x1 x2) h
theorem kc_M_236 : zCV "FrameMachineModel" 236 y_M_checks b_M_checks 5 none 2 := ⟨⟨kw_1048, kw_1050, ksel_57, kw_11, kw_1051⟩, by decide +kernel, by decide +kernel, by decide +kernel⟩
theorem mc_M_236 {ρ : Type} {E : ZE} {P : ZP} {A : Nat → Prop} {cc : ByteArray} {nL : Nat} {ret : Option FieldType} {fr lo : Nat} {F : ρ → State → Prop} {pc : Nat} {L : List (Nat × Value)} {rest : List Value} {σ : ZS} {x1 : Int32} {x2 : Int64} {K : ZS → Option ρ} (q : Nat) (X : ZX E (zmV P) A "FrameMachineModel" cc nL ret fr lo) (d : decode cc pc = .ok (.invokevirtual 236, 3)) (hfr : 2 + 1 ≤ fr) (hlo : 8 + (5 + 11) + 42 ≤ lo) (hr : (rest.map fun v => v.category).sum ≤ 8) (hq : pc + 3 = q) (kk : ∀ p : ZS, ZJ E (zmV P) A nL F q L (rest) p (K p)) : ZJ E (zmV P) A nL F pc L (.long x2 :: .int x1 :: .ref (P.1 0) :: rest) σ ((f_M_checks σ x1 x2).bind K) :=
  zj_cVv q 0 0 (As := [.int x1, .long x2]) (rest := rest) X kc_M_236 hfr hlo (fun p h => c_M_checks (zx_v X) σ x1 x2 h) rfl rfl rfl hr d hq kk
-- FrameMachineModel.legal(IIIII)Z
theorem kd_M_legal_0 : decode b_M_legal 0 = .ok (.iload_n 0, 1) := by decide +kernel
theorem kd_M_legal_1 : decode b_M_legal 1 = .ok (.bipush 21, 2) := by decide +kernel
theorem kd_M_legal_3 : decode b_M_legal 3 = .ok (.if_icmp .ne 20, 3) := by decide +kernel
theorem kd_M_legal_6 : decode b_M_legal 6 = .ok (.iload_n 1, 1) := by decide +kernel
theorem kd_M_legal_7 : decode b_M_legal 7 = .ok (.bipush 8, 2) := by decide +kernel
theorem kd_M_legal_9 : decode b_M_legal 9 = .ok (.imul, 1) := by decide +kernel
theorem kd_M_legal_10 : decode b_M_legal 10 = .ok (.iload_n 2, 1) := by decide +kernel
theorem kd_M_legal_11 : decode b_M_legal 11 = .ok (.iadd, 1) := by decide +kernel
theorem kd_M_legal_12 : decode b_M_legal 12 = .ok (.bipush 16, 2) := by decide +kernel
theorem kd_M_legal_14 : decode b_M_legal 14 = .ok (.if_icmp .ge 7, 3) := by decide +kernel
theorem kd_M_legal_17 : decode b_M_legal 17 = .ok (.iconst 1, 1) := by decide +kernel
theorem kd_M_legal_18 : decode b_M_legal 18 = .ok (.goto 4, 3) := by decide +kernel
theorem kd_M_legal_21 : decode b_M_legal 21 = .ok (.iconst 0, 1) := by decide +kernel
theorem kd_M_legal_22 : decode b_M_legal 22 = .ok (.ireturn, 1) := by decide +kernel
theorem kd_M_legal_23 : decode b_M_legal 23 = .ok (.iload_n 0, 1) := by decide +kernel
theorem kd_M_legal_24 : decode b_M_legal 24 = .ok (.bipush 24, 2) := by decide +kernel
theorem kd_M_legal_26 : decode b_M_legal 26 = .ok (.if_icmp .ne 15, 3) := by decide +kernel
theorem kd_M_legal_29 : decode b_M_legal 29 = .ok (.iload 4, 2) := by decide +kernel
theorem kd_M_legal_31 : decode b_M_legal 31 = .ok (.iconst 5, 1) := by decide +kernel
theorem kd_M_legal_32 : decode b_M_legal 32 = .ok (.if_icmp .ge 7, 3) := by decide +kernel
theorem kd_M_legal_35 : decode b_M_legal 35 = .ok (.iconst 1, 1) := by decide +kernel
theorem kd_M_legal_36 : decode b_M_legal 36 = .ok (.goto 4, 3) := by decide +kernel
theorem kd_M_legal_39 : decode b_M_legal 39 = .ok (.iconst 0, 1) := by decide +kernel
theorem kd_M_legal_40 : decode b_M_legal 40 = .ok (.ireturn, 1) := by decide +kernel
theorem kd_M_legal_41 : decode b_M_legal 41 = .ok (.iload_n 0, 1) := by decide +kernel
theorem kd_M_legal_42 : decode b_M_legal 42 = .ok (.bipush 25, 2) := by decide +kernel
theorem kd_M_legal_44 : decode b_M_legal 44 = .ok (.if_icmp .eq 9, 3) := by decide +kernel
theorem kd_M_legal_47 : decode b_M_legal 47 = .ok (.iload_n 0, 1) := by decide +kernel
theorem kd_M_legal_48 : decode b_M_legal 48 = .ok (.bipush 28, 2) := by decide +kernel
theorem kd_M_legal_50 : decode b_M_legal 50 = .ok (.if_icmp .ne 5, 3) := by decide +kernel
theorem kd_M_legal_53 : decode b_M_legal 53 = .ok (.iconst 1, 1) := by decide +kernel
theorem kd_M_legal_54 : decode b_M_legal 54 = .ok (.ireturn, 1) := by decide +kernel
theorem kd_M_legal_55 : decode b_M_legal 55 = .ok (.iload_n 0, 1) := by decide +kernel
theorem kd_M_legal_56 : decode b_M_legal 56 = .ok (.bipush 18, 2) := by decide +kernel
theorem kd_M_legal_58 : decode b_M_legal 58 = .ok (.if_icmp .lt 9, 3) := by decide +kernel
theorem kd_M_legal_61 : decode b_M_legal 61 = .ok (.iload_n 0, 1) := by decide +kernel
theorem kd_M_legal_62 : decode b_M_legal 62 = .ok (.bipush 20, 2) := by decide +kernel
theorem kd_M_legal_64 : decode b_M_legal 64 = .ok (.if_icmp .le 21, 3) := by decide +kernel
theorem kd_M_legal_67 : decode b_M_legal 67 = .ok (.iload_n 0, 1) := by decide +kernel
theorem kd_M_legal_68 : decode b_M_legal 68 = .ok (.bipush 26, 2) := by decide +kernel
theorem kd_M_legal_70 : decode b_M_legal 70 = .ok (.if_icmp .eq 15, 3) := by decide +kernel
theorem kd_M_legal_73 : decode b_M_legal 73 = .ok (.iload_n 0, 1) := by decide +kernel
theorem kd_M_legal_74 : decode b_M_legal 74 = .ok (.bipush 27, 2) := by decide +kernel
theorem kd_M_legal_76 : decode b_M_legal 76 = .ok (.if_icmp .eq 9, 3) := by decide +kernel
theorem kd_M_legal_79 : decode b_M_legal 79 = .ok (.iload_n 0, 1) := by decide +kernel
theorem kd_M_legal_80 : decode b_M_legal 80 = .ok (.bipush 29, 2) := by decide +kernel
theorem kd_M_legal_82 : decode b_M_legal 82 = .ok (.if_icmp .ne 7, 3) := by decide +kernel
theorem kd_M_legal_85 : decode b_M_legal 85 = .ok (.iconst 1, 1) := by decide +kernel
theorem kd_M_legal_86 : decode b_M_legal 86 = .ok (.goto 4, 3) := by decide +kernel
theorem kd_M_legal_89 : decode b_M_legal 89 = .ok (.iconst 0, 1) := by decide +kernel
theorem kd_M_legal_90 : decode b_M_legal 90 = .ok (.istore 5, 2) := by decide +kernel
theorem kd_M_legal_92 : decode b_M_legal 92 = .ok (.iload_n 0, 1) := by decide +kernel
theorem kd_M_legal_93 : decode b_M_legal 93 = .ok (.bipush 12, 2) := by decide +kernel
theorem kd_M_legal_95 : decode b_M_legal 95 = .ok (.if_icmp .eq 15, 3) := by decide +kernel
theorem kd_M_legal_98 : decode b_M_legal 98 = .ok (.iload_n 0, 1) := by decide +kernel
theorem kd_M_legal_99 : decode b_M_legal 99 = .ok (.bipush 22, 2) := by decide +kernel
theorem kd_M_legal_101 : decode b_M_legal 101 = .ok (.if_icmp .eq 9, 3) := by decide +kernel
theorem kd_M_legal_104 : decode b_M_legal 104 = .ok (.iload_n 0, 1) := by decide +kernel
theorem kd_M_legal_105 : decode b_M_legal 105 = .ok (.bipush 23, 2) := by decide +kernel
theorem kd_M_legal_107 : decode b_M_legal 107 = .ok (.if_icmp .ne 7, 3) := by decide +kernel
theorem kd_M_legal_110 : decode b_M_legal 110 = .ok (.iconst 1, 1) := by decide +kernel
theorem kd_M_legal_111 : decode b_M_legal 111 = .ok (.goto 4, 3) := by decide +kernel
theorem kd_M_legal_114 : decode b_M_legal 114 = .ok (.iconst 0, 1) := by decide +kernel
theorem kd_M_legal_115 : decode b_M_legal 115 = .ok (.istore 6, 2) := by decide +kernel
theorem kd_M_legal_117 : decode b_M_legal 117 = .ok (.iload_n 0, 1) := by decide +kernel
theorem kd_M_legal_118 : decode b_M_legal 118 = .ok (.bipush 29, 2) := by decide +kernel
theorem kd_M_legal_120 : decode b_M_legal 120 = .ok (.if_icmp .gt 43, 3) := by decide +kernel
theorem kd_M_legal_123 : decode b_M_legal 123 = .ok (.iload_n 1, 1) := by decide +kernel
theorem kd_M_legal_124 : decode b_M_legal 124 = .ok (.iconst 3, 1) := by decide +kernel
theorem kd_M_legal_125 : decode b_M_legal 125 = .ok (.if_icmp .eq 38, 3) := by decide +kernel
theorem kd_M_legal_128 : decode b_M_legal 128 = .ok (.iload 5, 2) := by decide +kernel
theorem kd_M_legal_130 : decode b_M_legal 130 = .ok (.ifCond .eq 8, 3) := by decide +kernel
theorem kd_M_legal_133 : decode b_M_legal 133 = .ok (.iload_n 1, 1) := by decide +kernel
theorem kd_M_legal_134 : decode b_M_legal 134 = .ok (.iconst 1, 1) := by decide +kernel
theorem kd_M_legal_135 : decode b_M_legal 135 = .ok (.if_icmp .ne 28, 3) := by decide +kernel
theorem kd_M_legal_138 : decode b_M_legal 138 = .ok (.iload 6, 2) := by decide +kernel
theorem kd_M_legal_140 : decode b_M_legal 140 = .ok (.ifCond .eq 8, 3) := by decide +kernel
theorem kd_M_legal_143 : decode b_M_legal 143 = .ok (.iload_n 1, 1) := by decide +kernel
theorem kd_M_legal_144 : decode b_M_legal 144 = .ok (.iconst 2, 1) := by decide +kernel
theorem kd_M_legal_145 : decode b_M_legal 145 = .ok (.if_icmp .ne 18, 3) := by decide +kernel
theorem kd_M_legal_148 : decode b_M_legal 148 = .ok (.iload_n 0, 1) := by decide +kernel
theorem kd_M_legal_149 : decode b_M_legal 149 = .ok (.iconst 2, 1) := by decide +kernel
theorem kd_M_legal_150 : decode b_M_legal 150 = .ok (.if_icmp .eq 9, 3) := by decide +kernel
theorem kd_M_legal_153 : decode b_M_legal 153 = .ok (.iload_n 0, 1) := by decide +kernel
theorem kd_M_legal_154 : decode b_M_legal 154 = .ok (.bipush 11, 2) := by decide +kernel
theorem kd_M_legal_156 : decode b_M_legal 156 = .ok (.if_icmp .ne 9, 3) := by decide +kernel
theorem kd_M_legal_159 : decode b_M_legal 159 = .ok (.iload_n 1, 1) := by decide +kernel
theorem kd_M_legal_160 : decode b_M_legal 160 = .ok (.ifCond .ne 5, 3) := by decide +kernel
theorem kd_M_legal_163 : decode b_M_legal 163 = .ok (.iconst 0, 1) := by decide +kernel
theorem kd_M_legal_164 : decode b_M_legal 164 = .ok (.ireturn, 1) := by decide +kernel
theorem kd_M_legal_165 : decode b_M_legal 165 = .ok (.iload_n 0, 1) := by decide +kernel
theorem kd_M_legal_166 : decode b_M_legal 166 = .ok (.bipush 17, 2) := by decide +kernel
theorem kd_M_legal_168 : decode b_M_legal 168 = .ok (.if_icmp .ne 15, 3) := by decide +kernel
theorem kd_M_legal_171 : decode b_M_legal 171 = .ok (.iload_n 3, 1) := by decide +kernel
theorem kd_M_legal_172 : decode b_M_legal 172 = .ok (.bipush 6, 2) := by decide +kernel
theorem kd_M_legal_174 : decode b_M_legal 174 = .ok (.if_icmp .ge 7, 3) := by decide +kernel
theorem kd_M_legal_177 : decode b_M_legal 177 = .ok (.iconst 1, 1) := by decide +kernel
theorem kd_M_legal_178 : decode b_M_legal 178 = .ok (.goto 4, 3) := by decide +kernel
theorem kd_M_legal_181 : decode b_M_legal 181 = .ok (.iconst 0, 1) := by decide +kernel
theorem kd_M_legal_182 : decode b_M_legal 182 = .ok (.ireturn, 1) := by decide +kernel
theorem kd_M_legal_183 : decode b_M_legal 183 = .ok (.iload 6, 2) := by decide +kernel
theorem kd_M_legal_185 : decode b_M_legal 185 = .ok (.ifCond .eq 10, 3) := by decide +kernel
theorem kd_M_legal_188 : decode b_M_legal 188 = .ok (.iload_n 3, 1) := by decide +kernel
theorem kd_M_legal_189 : decode b_M_legal 189 = .ok (.iload 4, 2) := by decide +kernel
theorem kd_M_legal_191 : decode b_M_legal 191 = .ok (.invokestatic 183, 3) := by decide +kernel
theorem kd_M_legal_194 : decode b_M_legal 194 = .ok (.ireturn, 1) := by decide +kernel
theorem kd_M_legal_195 : decode b_M_legal 195 = .ok (.iload_n 0, 1) := by decide +kernel
theorem kd_M_legal_196 : decode b_M_legal 196 = .ok (.iconst 1, 1) := by decide +kernel
theorem kd_M_legal_197 : decode b_M_legal 197 = .ok (.if_icmp .eq 39, 3) := by decide +kernel
theorem kd_M_legal_200 : decode b_M_legal 200 = .ok (.iload_n 0, 1) := by decide +kernel
theorem kd_M_legal_201 : decode b_M_legal 201 = .ok (.bipush 9, 2) := by decide +kernel
theorem kd_M_legal_203 : decode b_M_legal 203 = .ok (.if_icmp .eq 33, 3) := by decide +kernel
theorem kd_M_legal_206 : decode b_M_legal 206 = .ok (.iload_n 0, 1) := by decide +kernel
theorem kd_M_legal_207 : decode b_M_legal 207 = .ok (.bipush 10, 2) := by decide +kernel
theorem kd_M_legal_209 : decode b_M_legal 209 = .ok (.if_icmp .eq 27, 3) := by decide +kernel
theorem kd_M_legal_212 : decode b_M_legal 212 = .ok (.iload_n 0, 1) := by decide +kernel
theorem kd_M_legal_213 : decode b_M_legal 213 = .ok (.bipush 13, 2) := by decide +kernel
theorem kd_M_legal_215 : decode b_M_legal 215 = .ok (.if_icmp .eq 21, 3) := by decide +kernel
theorem kd_M_legal_218 : decode b_M_legal 218 = .ok (.iload_n 0, 1) := by decide +kernel
theorem kd_M_legal_219 : decode b_M_legal 219 = .ok (.bipush 15, 2) := by decide +kernel
theorem kd_M_legal_221 : decode b_M_legal 221 = .ok (.if_icmp .eq 15, 3) := by decide +kernel
theorem kd_M_legal_224 : decode b_M_legal 224 = .ok (.iload_n 0, 1) := by decide +kernel
theorem kd_M_legal_225 : decode b_M_legal 225 = .ok (.bipush 16, 2) := by decide +kernel
theorem kd_M_legal_227 : decode b_M_legal 227 = .ok (.if_icmp .eq 9, 3) := by decide +kernel
theorem kd_M_legal_230 : decode b_M_legal 230 = .ok (.iload_n 0, 1) := by decide +kernel
theorem kd_M_legal_231 : decode b_M_legal 231 = .ok (.bipush 27, 2) := by decide +kernel
theorem kd_M_legal_233 : decode b_M_legal 233 = .ok (.if_icmp .ne 7, 3) := by decide +kernel
theorem kd_M_legal_236 : decode b_M_legal 236 = .ok (.iconst 1, 1) := by decide +kernel
theorem kd_M_legal_237 : decode b_M_legal 237 = .ok (.goto 4, 3) := by decide +kernel
theorem kd_M_legal_240 : decode b_M_legal 240 = .ok (.iconst 0, 1) := by decide +kernel
theorem kd_M_legal_241 : decode b_M_legal 241 = .ok (.istore 7, 2) := by decide +kernel
theorem kd_M_legal_243 : decode b_M_legal 243 = .ok (.iload_n 0, 1) := by decide +kernel
theorem kd_M_legal_244 : decode b_M_legal 244 = .ok (.iconst 2, 1) := by decide +kernel
theorem kd_M_legal_245 : decode b_M_legal 245 = .ok (.if_icmp .eq 27, 3) := by decide +kernel
theorem kd_M_legal_248 : decode b_M_legal 248 = .ok (.iload_n 0, 1) := by decide +kernel
theorem kd_M_legal_249 : decode b_M_legal 249 = .ok (.bipush 11, 2) := by decide +kernel
theorem kd_M_legal_251 : decode b_M_legal 251 = .ok (.if_icmp .eq 21, 3) := by decide +kernel
theorem kd_M_legal_254 : decode b_M_legal 254 = .ok (.iload_n 0, 1) := by decide +kernel
theorem kd_M_legal_255 : decode b_M_legal 255 = .ok (.ifCond .eq 13, 3) := by decide +kernel
theorem kd_M_legal_258 : decode b_M_legal 258 = .ok (.iload_n 0, 1) := by decide +kernel
theorem kd_M_legal_259 : decode b_M_legal 259 = .ok (.iconst 3, 1) := by decide +kernel
theorem kd_M_legal_260 : decode b_M_legal 260 = .ok (.if_icmp .lt 16, 3) := by decide +kernel
theorem kd_M_legal_263 : decode b_M_legal 263 = .ok (.iload_n 0, 1) := by decide +kernel
theorem kd_M_legal_264 : decode b_M_legal 264 = .ok (.iconst 5, 1) := by decide +kernel
theorem kd_M_legal_265 : decode b_M_legal 265 = .ok (.if_icmp .gt 11, 3) := by decide +kernel
theorem kd_M_legal_268 : decode b_M_legal 268 = .ok (.iload_n 1, 1) := by decide +kernel
theorem kd_M_legal_269 : decode b_M_legal 269 = .ok (.ifCond .le 7, 3) := by decide +kernel
theorem kd_M_legal_272 : decode b_M_legal 272 = .ok (.iconst 1, 1) := by decide +kernel
theorem kd_M_legal_273 : decode b_M_legal 273 = .ok (.goto 4, 3) := by decide +kernel
theorem kd_M_legal_276 : decode b_M_legal 276 = .ok (.iconst 0, 1) := by decide +kernel
theorem kd_M_legal_277 : decode b_M_legal 277 = .ok (.istore 8, 2) := by decide +kernel
theorem kd_M_legal_279 : decode b_M_legal 279 = .ok (.iload 7, 2) := by decide +kernel
theorem kd_M_legal_281 : decode b_M_legal 281 = .ok (.ifCond .eq 12, 3) := by decide +kernel
theorem kd_M_legal_284 : decode b_M_legal 284 = .ok (.iload_n 3, 1) := by decide +kernel
theorem kd_M_legal_285 : decode b_M_legal 285 = .ok (.iload 4, 2) := by decide +kernel
theorem kd_M_legal_287 : decode b_M_legal 287 = .ok (.invokestatic 186, 3) := by decide +kernel
theorem kd_M_legal_290 : decode b_M_legal 290 = .ok (.goto 23, 3) := by decide +kernel
theorem kd_M_legal_293 : decode b_M_legal 293 = .ok (.iload 8, 2) := by decide +kernel
theorem kd_M_legal_295 : decode b_M_legal 295 = .ok (.ifCond .eq 12, 3) := by decide +kernel
theorem kd_M_legal_298 : decode b_M_legal 298 = .ok (.iload_n 3, 1) := by decide +kernel
theorem kd_M_legal_299 : decode b_M_legal 299 = .ok (.iload 4, 2) := by decide +kernel
theorem kd_M_legal_301 : decode b_M_legal 301 = .ok (.invokestatic 147, 3) := by decide +kernel
theorem kd_M_legal_304 : decode b_M_legal 304 = .ok (.goto 9, 3) := by decide +kernel
theorem kd_M_legal_307 : decode b_M_legal 307 = .ok (.iload_n 3, 1) := by decide +kernel
theorem kd_M_legal_308 : decode b_M_legal 308 = .ok (.iload 4, 2) := by decide +kernel
theorem kd_M_legal_310 : decode b_M_legal 310 = .ok (.invokestatic 189, 3) := by decide +kernel
theorem kd_M_legal_313 : decode b_M_legal 313 = .ok (.ireturn, 1) := by decide +kernel
noncomputable def f_M_legal_277 (s0 : ZS) (l3 : Int32) (l4 : Int32) (l7 : Int32) (t0 : Int32) : Option (Int32 × ZS) :=
  if l7 = 0 then
    if t0 = 0 then
      (f_M_data s0 l3 l4).bind fun p1 =>
      if ¬ (p1.1 = 0 ∨ p1.1 = 1) then none else
      some (p1.1, p1.2)
    else
      (f_M_any s0 l3 l4).bind fun p2 =>
      if ¬ (p2.1 = 0 ∨ p2.1 = 1) then none else
      some (p2.1, p2.2)
  else
    (f_M_alterable s0 l3 l4).bind fun p3 =>
    if ¬ (p3.1 = 0 ∨ p3.1 = 1) then none else
    some (p3.1, p3.2)
noncomputable def f_M_legal_272 (s0 : ZS) (l3 : Int32) (l4 : Int32) (l7 : Int32) : Option (Int32 × ZS) :=
  f_M_legal_277 s0 l3 l4 l7 1
noncomputable def f_M_legal_276 (s0 : ZS) (l3 : Int32) (l4 : Int32) (l7 : Int32) : Option (Int32 × ZS) :=
  f_M_legal_277 s0 l3 l4 l7 0
noncomputable def f_M_legal_268 (s0 : ZS) (l1 : Int32) (l3 : Int32) (l4 : Int32) (l7 : Int32) : Option (Int32 × ZS) :=
  if l1 ≤ 0 then
    f_M_legal_276 s0 l3 l4 l7
  else
    f_M_legal_272 s0 l3 l4 l7
noncomputable def f_M_legal_241 (s0 : ZS) (l0 : Int32) (l1 : Int32) (l3 : Int32) (l4 : Int32) (t0 : Int32) : Option (Int32 × ZS) :=
  if l0 = 2 then
    f_M_legal_272 s0 l3 l4 t0
  else
    if l0 = 11 then
      f_M_legal_272 s0 l3 l4 t0
    else
      if l0 = 0 then
        f_M_legal_268 s0 l1 l3 l4 t0
      else
        if l0 < 3 then
          f_M_legal_276 s0 l3 l4 t0
        else
          if 5 < l0 then
            f_M_legal_276 s0 l3 l4 t0
          else
            f_M_legal_268 s0 l1 l3 l4 t0
noncomputable def f_M_legal_236 (s0 : ZS) (l0 : Int32) (l1 : Int32) (l3 : Int32) (l4 : Int32) : Option (Int32 × ZS) :=
  f_M_legal_241 s0 l0 l1 l3 l4 1
noncomputable def f_M_legal_165 (s0 : ZS) (l0 : Int32) (l1 : Int32) (l3 : Int32) (l4 : Int32) (l6 : Int32) : Option (Int32 × ZS) :=
  if l0 = 17 then
    if 6 ≤ l3 then
      some (0, s0)
    else
      some (1, s0)
  else
    if l6 = 0 then
      if l0 = 1 then
        f_M_legal_236 s0 l0 l1 l3 l4
      else
        if l0 = 9 then
          f_M_legal_236 s0 l0 l1 l3 l4
        else
          if l0 = 10 then
            f_M_legal_236 s0 l0 l1 l3 l4
          else
            if l0 = 13 then
              f_M_legal_236 s0 l0 l1 l3 l4
            else
              if l0 = 15 then
                f_M_legal_236 s0 l0 l1 l3 l4
              else
                if l0 = 16 then
                  f_M_legal_236 s0 l0 l1 l3 l4
                else
                  if l0 = 27 then
                    f_M_legal_236 s0 l0 l1 l3 l4
                  else
                    f_M_legal_241 s0 l0 l1 l3 l4 0
    else
      (f_M_places s0 l3 l4).bind fun p4 =>
      if ¬ (p4.1 = 0 ∨ p4.1 = 1) then none else
      some (p4.1, p4.2)
noncomputable def f_M_legal_159 (s0 : ZS) (l0 : Int32) (l1 : Int32) (l3 : Int32) (l4 : Int32) (l6 : Int32) : Option (Int32 × ZS) :=
  if l1 = 0 then
    some (0, s0)
  else
    f_M_legal_165 s0 l0 l1 l3 l4 l6
noncomputable def f_M_legal_148 (s0 : ZS) (l0 : Int32) (l1 : Int32) (l3 : Int32) (l4 : Int32) (l6 : Int32) : Option (Int32 × ZS) :=
  if l0 = 2 then
    f_M_legal_159 s0 l0 l1 l3 l4 l6
  else
    if l0 = 11 then
      f_M_legal_159 s0 l0 l1 l3 l4 l6
    else
      f_M_legal_165 s0 l0 l1 l3 l4 l6
noncomputable def f_M_legal_138 (s0 : ZS) (l0 : Int32) (l1 : Int32) (l3 : Int32) (l4 : Int32) (l6 : Int32) : Option (Int32 × ZS) :=
  if l6 = 0 then
    f_M_legal_148 s0 l0 l1 l3 l4 l6
  else
    if l1 = 2 then
      f_M_legal_148 s0 l0 l1 l3 l4 l6
    else
      some (0, s0)
noncomputable def f_M_legal_115 (s0 : ZS) (l0 : Int32) (l1 : Int32) (l3 : Int32) (l4 : Int32) (l5 : Int32) (t0 : Int32) : Option (Int32 × ZS) :=
  if 29 < l0 then
    some (0, s0)
  else
    if l1 = 3 then
      some (0, s0)
    else
      if l5 = 0 then
        f_M_legal_138 s0 l0 l1 l3 l4 t0
      else
        if l1 = 1 then
          f_M_legal_138 s0 l0 l1 l3 l4 t0
        else
          some (0, s0)
noncomputable def f_M_legal_110 (s0 : ZS) (l0 : Int32) (l1 : Int32) (l3 : Int32) (l4 : Int32) (l5 : Int32) : Option (Int32 × ZS) :=
  f_M_legal_115 s0 l0 l1 l3 l4 l5 1
noncomputable def f_M_legal_90 (s0 : ZS) (l0 : Int32) (l1 : Int32) (l3 : Int32) (l4 : Int32) (t0 : Int32) : Option (Int32 × ZS) :=
  if l0 = 12 then
    f_M_legal_110 s0 l0 l1 l3 l4 t0
  else
    if l0 = 22 then
      f_M_legal_110 s0 l0 l1 l3 l4 t0
    else
      if l0 = 23 then
        f_M_legal_110 s0 l0 l1 l3 l4 t0
      else
        f_M_legal_115 s0 l0 l1 l3 l4 t0 0
noncomputable def f_M_legal_85 (s0 : ZS) (l0 : Int32) (l1 : Int32) (l3 : Int32) (l4 : Int32) : Option (Int32 × ZS) :=
  f_M_legal_90 s0 l0 l1 l3 l4 1
noncomputable def f_M_legal_67 (s0 : ZS) (l0 : Int32) (l1 : Int32) (l3 : Int32) (l4 : Int32) : Option (Int32 × ZS) :=
  if l0 = 26 then
    f_M_legal_85 s0 l0 l1 l3 l4
  else
    if l0 = 27 then
      f_M_legal_85 s0 l0 l1 l3 l4
    else
      if l0 = 29 then
        f_M_legal_85 s0 l0 l1 l3 l4
      else
        f_M_legal_90 s0 l0 l1 l3 l4 0
noncomputable def f_M_legal (s0 : ZS) (x1 : Int32) (x2 : Int32) (x3 : Int32) (x4 : Int32) (x5 : Int32) : Option (Int32 × ZS) :=
  if x1 = 21 then
    if 16 ≤ ((x2 * 8) + x3) then
      some (0, s0)
    else
      some (1, s0)
  else
    if x1 = 24 then
      if 5 ≤ x5 then
        some (0, s0)
      else
        some (1, s0)
    else
      if x1 = 25 then
        some (1, s0)
      else
        if x1 = 28 then
          some (1, s0)
        else
          if x1 < 18 then
            f_M_legal_67 s0 x1 x2 x4 x5
          else
            if x1 ≤ 20 then
              f_M_legal_85 s0 x1 x2 x4 x5
            else
              f_M_legal_67 s0 x1 x2 x4 x5
theorem j_M_legal_277 {P : ZP} {E : ZE} {A : Nat → Prop} (X : ZX E (zmV P) A "FrameMachineModel" b_M_legal 9 (some .boolean) 2 42) (s0 : ZS) (l3 : Int32) (l4 : Int32) (l7 : Int32) (t0 : Int32) : ZJ E (zmV P) A 9 (zFi E (zmV P) A) 277 [(3, .int l3), (4, .int l4), (7, .int l7)] [.int t0] s0 (f_M_legal_277 s0 l3 l4 l7 t0) := by
  unfold f_M_legal_277
  refine zj_istore 279 [(8, .int t0), (3, .int l3), (4, .int l4), (7, .int l7)] X kd_M_legal_277 (Nat.le_of_ble_eq_true rfl) rfl rfl ?_
  refine zj_iload 281 3 X kd_M_legal_279 rfl rfl ?_
  refine zj_if_eq 293 284 X kd_M_legal_281 rfl rfl (fun _ => ?_) (fun _ => ?_)
  · refine zj_iload 295 0 X kd_M_legal_293 rfl rfl ?_
    refine zj_if_eq 307 298 X kd_M_legal_295 rfl rfl (fun _ => ?_) (fun _ => ?_)
    · refine zj_iload_n 308 1 X kd_M_legal_307 rfl rfl rfl ?_
      refine zj_iload 310 2 X kd_M_legal_308 rfl rfl ?_
      refine mc_M_189 313 X kd_M_legal_310 (Nat.le_of_ble_eq_true rfl) (Nat.le_of_ble_eq_true rfl) (Nat.le_of_ble_eq_true rfl) rfl (fun p1 => ?_)
      refine zj_ng (fun hg => ?_)
      exact zj_zret X kd_M_legal_313 (Decidable.not_not.mp hg)
    · refine zj_iload_n 299 1 X kd_M_legal_298 rfl rfl rfl ?_
      refine zj_iload 301 2 X kd_M_legal_299 rfl rfl ?_
      refine mc_M_147 304 X kd_M_legal_301 (Nat.le_of_ble_eq_true rfl) (Nat.le_of_ble_eq_true rfl) (Nat.le_of_ble_eq_true rfl) rfl (fun p2 => ?_)
      refine zj_goto 313 X kd_M_legal_304 rfl ?_
      refine zj_ng (fun hg => ?_)
      exact zj_zret X kd_M_legal_313 (Decidable.not_not.mp hg)
  · refine zj_iload_n 285 1 X kd_M_legal_284 rfl rfl rfl ?_
    refine zj_iload 287 2 X kd_M_legal_285 rfl rfl ?_
    refine mc_M_186 290 X kd_M_legal_287 (Nat.le_of_ble_eq_true rfl) (Nat.le_of_ble_eq_true rfl) (Nat.le_of_ble_eq_true rfl) rfl (fun p3 => ?_)
    refine zj_goto 313 X kd_M_legal_290 rfl ?_
    refine zj_ng (fun hg => ?_)
    exact zj_zret X kd_M_legal_313 (Decidable.not_not.mp hg)
theorem j_M_legal_272 {P : ZP} {E : ZE} {A : Nat → Prop} (X : ZX E (zmV P) A "FrameMachineModel" b_M_legal 9 (some .boolean) 2 42) (s0 : ZS) (l3 : Int32) (l4 : Int32) (l7 : Int32) : ZJ E (zmV P) A 9 (zFi E (zmV P) A) 272 [(3, .int l3), (4, .int l4), (7, .int l7)] [] s0 (f_M_legal_272 s0 l3 l4 l7) := by
  unfold f_M_legal_272
  refine zj_iconst 273 1 X kd_M_legal_272 ki_1 rfl ?_
  refine zj_goto 277 X kd_M_legal_273 rfl ?_
  exact j_M_legal_277 X s0 l3 l4 l7 1
theorem j_M_legal_276 {P : ZP} {E : ZE} {A : Nat → Prop} (X : ZX E (zmV P) A "FrameMachineModel" b_M_legal 9 (some .boolean) 2 42) (s0 : ZS) (l3 : Int32) (l4 : Int32) (l7 : Int32) : ZJ E (zmV P) A 9 (zFi E (zmV P) A) 276 [(3, .int l3), (4, .int l4), (7, .int l7)] [] s0 (f_M_legal_276 s0 l3 l4 l7) := by
  unfold f_M_legal_276
  refine zj_iconst 277 0 X kd_M_legal_276 ki_0 rfl ?_
  exact j_M_legal_277 X s0 l3 l4 l7 0
theorem j_M_legal_268 {P : ZP} {E : ZE} {A : Nat → Prop} (X : ZX E (zmV P) A "FrameMachineModel" b_M_legal 9 (some .boolean) 2 42) (s0 : ZS) (l1 : Int32) (l3 : Int32) (l4 : Int32) (l7 : Int32) : ZJ E (zmV P) A 9 (zFi E (zmV P) A) 268 [(1, .int l1), (3, .int l3), (4, .int l4), (7, .int l7)] [] s0 (f_M_legal_268 s0 l1 l3 l4 l7) := by
  unfold f_M_legal_268
  refine zj_iload_n 269 0 X kd_M_legal_268 rfl rfl rfl ?_
  refine zj_if_le 276 272 X kd_M_legal_269 rfl rfl (fun _ => ?_) (fun _ => ?_)
  · refine zj_loc [1, 2, 3] (L2 := [(3, .int l3), (4, .int l4), (7, .int l7)]) rfl ?_
    exact j_M_legal_276 X s0 l3 l4 l7
  · refine zj_loc [1, 2, 3] (L2 := [(3, .int l3), (4, .int l4), (7, .int l7)]) rfl ?_
    exact j_M_legal_272 X s0 l3 l4 l7
theorem j_M_legal_241 {P : ZP} {E : ZE} {A : Nat → Prop} (X : ZX E (zmV P) A "FrameMachineModel" b_M_legal 9 (some .boolean) 2 42) (s0 : ZS) (l0 : Int32) (l1 : Int32) (l3 : Int32) (l4 : Int32) (t0 : Int32) : ZJ E (zmV P) A 9 (zFi E (zmV P) A) 241 [(0, .int l0), (1, .int l1), (3, .int l3), (4, .int l4)] [.int t0] s0 (f_M_legal_241 s0 l0 l1 l3 l4 t0) := by
  unfold f_M_legal_241
  refine zj_istore 243 [(7, .int t0), (0, .int l0), (1, .int l1), (3, .int l3), (4, .int l4)] X kd_M_legal_241 (Nat.le_of_ble_eq_true rfl) rfl rfl ?_
  refine zj_iload_n 244 1 X kd_M_legal_243 rfl rfl rfl ?_
  refine zj_iconst 245 2 X kd_M_legal_244 ki_2 rfl ?_
  refine zj_icmp_eq 272 248 X kd_M_legal_245 rfl rfl (fun _ => ?_) (fun _ => ?_)
  · refine zj_loc [3, 4, 0] (L2 := [(3, .int l3), (4, .int l4), (7, .int t0)]) rfl ?_
    exact j_M_legal_272 X s0 l3 l4 t0
  · refine zj_iload_n 249 1 X kd_M_legal_248 rfl rfl rfl ?_
    refine zj_bipush 251 11 X kd_M_legal_249 kb_11 rfl ?_
    refine zj_icmp_eq 272 254 X kd_M_legal_251 rfl rfl (fun _ => ?_) (fun _ => ?_)
    · refine zj_loc [3, 4, 0] (L2 := [(3, .int l3), (4, .int l4), (7, .int t0)]) rfl ?_
      exact j_M_legal_272 X s0 l3 l4 t0
    · refine zj_iload_n 255 1 X kd_M_legal_254 rfl rfl rfl ?_
      refine zj_if_eq 268 258 X kd_M_legal_255 rfl rfl (fun _ => ?_) (fun _ => ?_)
      · refine zj_loc [2, 3, 4, 0] (L2 := [(1, .int l1), (3, .int l3), (4, .int l4), (7, .int t0)]) rfl ?_
        exact j_M_legal_268 X s0 l1 l3 l4 t0
      · refine zj_iload_n 259 1 X kd_M_legal_258 rfl rfl rfl ?_
        refine zj_iconst 260 3 X kd_M_legal_259 ki_3 rfl ?_
        refine zj_icmp_lt 276 263 X kd_M_legal_260 rfl rfl (fun _ => ?_) (fun _ => ?_)
        · refine zj_loc [3, 4, 0] (L2 := [(3, .int l3), (4, .int l4), (7, .int t0)]) rfl ?_
          exact j_M_legal_276 X s0 l3 l4 t0
        · refine zj_iload_n 264 1 X kd_M_legal_263 rfl rfl rfl ?_
          refine zj_iconst 265 5 X kd_M_legal_264 ki_5 rfl ?_
          refine zj_icmp_gt 276 268 X kd_M_legal_265 rfl rfl (fun _ => ?_) (fun _ => ?_)
          · refine zj_loc [3, 4, 0] (L2 := [(3, .int l3), (4, .int l4), (7, .int t0)]) rfl ?_
            exact j_M_legal_276 X s0 l3 l4 t0
          · refine zj_loc [2, 3, 4, 0] (L2 := [(1, .int l1), (3, .int l3), (4, .int l4), (7, .int t0)]) rfl ?_
            exact j_M_legal_268 X s0 l1 l3 l4 t0
theorem j_M_legal_236 {P : ZP} {E : ZE} {A : Nat → Prop} (X : ZX E (zmV P) A "FrameMachineModel" b_M_legal 9 (some .boolean) 2 42) (s0 : ZS) (l0 : Int32) (l1 : Int32) (l3 : Int32) (l4 : Int32) : ZJ E (zmV P) A 9 (zFi E (zmV P) A) 236 [(0, .int l0), (1, .int l1), (3, .int l3), (4, .int l4)] [] s0 (f_M_legal_236 s0 l0 l1 l3 l4) := by
  unfold f_M_legal_236
  refine zj_iconst 237 1 X kd_M_legal_236 ki_1 rfl ?_
  refine zj_goto 241 X kd_M_legal_237 rfl ?_
  exact j_M_legal_241 X s0 l0 l1 l3 l4 1
theorem j_M_legal_165 {P : ZP} {E : ZE} {A : Nat → Prop} (X : ZX E (zmV P) A "FrameMachineModel" b_M_legal 9 (some .boolean) 2 42) (s0 : ZS) (l0 : Int32) (l1 : Int32) (l3 : Int32) (l4 : Int32) (l6 : Int32) : ZJ E (zmV P) A 9 (zFi E (zmV P) A) 165 [(0, .int l0), (1, .int l1), (3, .int l3), (4, .int l4), (6, .int l6)] [] s0 (f_M_legal_165 s0 l0 l1 l3 l4 l6) := by
  unfold f_M_legal_165
  refine zj_iload_n 166 0 X kd_M_legal_165 rfl rfl rfl ?_
  refine zj_bipush 168 17 X kd_M_legal_166 kb_17 rfl ?_
  refine zj_icmp_ne 183 171 X kd_M_legal_168 rfl rfl (fun _ => ?_) (fun _ => ?_)
  · refine zj_iload_n 172 2 X kd_M_legal_171 rfl rfl rfl ?_
    refine zj_bipush 174 6 X kd_M_legal_172 kb_6 rfl ?_
    refine zj_icmp_ge 181 177 X kd_M_legal_174 rfl rfl (fun _ => ?_) (fun _ => ?_)
    · refine zj_iconst 182 0 X kd_M_legal_181 ki_0 rfl ?_
      exact zj_zret X kd_M_legal_182 (Or.inl rfl)
    · refine zj_iconst 178 1 X kd_M_legal_177 ki_1 rfl ?_
      refine zj_goto 182 X kd_M_legal_178 rfl ?_
      exact zj_zret X kd_M_legal_182 (Or.inr rfl)
  · refine zj_iload 185 4 X kd_M_legal_183 rfl rfl ?_
    refine zj_if_eq 195 188 X kd_M_legal_185 rfl rfl (fun _ => ?_) (fun _ => ?_)
    · refine zj_iload_n 196 0 X kd_M_legal_195 rfl rfl rfl ?_
      refine zj_iconst 197 1 X kd_M_legal_196 ki_1 rfl ?_
      refine zj_icmp_eq 236 200 X kd_M_legal_197 rfl rfl (fun _ => ?_) (fun _ => ?_)
      · refine zj_loc [0, 1, 2, 3] (L2 := [(0, .int l0), (1, .int l1), (3, .int l3), (4, .int l4)]) rfl ?_
        exact j_M_legal_236 X s0 l0 l1 l3 l4
      · refine zj_iload_n 201 0 X kd_M_legal_200 rfl rfl rfl ?_
        refine zj_bipush 203 9 X kd_M_legal_201 kb_9 rfl ?_
        refine zj_icmp_eq 236 206 X kd_M_legal_203 rfl rfl (fun _ => ?_) (fun _ => ?_)
        · refine zj_loc [0, 1, 2, 3] (L2 := [(0, .int l0), (1, .int l1), (3, .int l3), (4, .int l4)]) rfl ?_
          exact j_M_legal_236 X s0 l0 l1 l3 l4
        · refine zj_iload_n 207 0 X kd_M_legal_206 rfl rfl rfl ?_
          refine zj_bipush 209 10 X kd_M_legal_207 kb_10 rfl ?_
          refine zj_icmp_eq 236 212 X kd_M_legal_209 rfl rfl (fun _ => ?_) (fun _ => ?_)
          · refine zj_loc [0, 1, 2, 3] (L2 := [(0, .int l0), (1, .int l1), (3, .int l3), (4, .int l4)]) rfl ?_
            exact j_M_legal_236 X s0 l0 l1 l3 l4
          · refine zj_iload_n 213 0 X kd_M_legal_212 rfl rfl rfl ?_
            refine zj_bipush 215 13 X kd_M_legal_213 kb_13 rfl ?_
            refine zj_icmp_eq 236 218 X kd_M_legal_215 rfl rfl (fun _ => ?_) (fun _ => ?_)
            · refine zj_loc [0, 1, 2, 3] (L2 := [(0, .int l0), (1, .int l1), (3, .int l3), (4, .int l4)]) rfl ?_
              exact j_M_legal_236 X s0 l0 l1 l3 l4
            · refine zj_iload_n 219 0 X kd_M_legal_218 rfl rfl rfl ?_
              refine zj_bipush 221 15 X kd_M_legal_219 kb_15 rfl ?_
              refine zj_icmp_eq 236 224 X kd_M_legal_221 rfl rfl (fun _ => ?_) (fun _ => ?_)
              · refine zj_loc [0, 1, 2, 3] (L2 := [(0, .int l0), (1, .int l1), (3, .int l3), (4, .int l4)]) rfl ?_
                exact j_M_legal_236 X s0 l0 l1 l3 l4
              · refine zj_iload_n 225 0 X kd_M_legal_224 rfl rfl rfl ?_
                refine zj_bipush 227 16 X kd_M_legal_225 kb_16 rfl ?_
                refine zj_icmp_eq 236 230 X kd_M_legal_227 rfl rfl (fun _ => ?_) (fun _ => ?_)
                · refine zj_loc [0, 1, 2, 3] (L2 := [(0, .int l0), (1, .int l1), (3, .int l3), (4, .int l4)]) rfl ?_
                  exact j_M_legal_236 X s0 l0 l1 l3 l4
                · refine zj_iload_n 231 0 X kd_M_legal_230 rfl rfl rfl ?_
                  refine zj_bipush 233 27 X kd_M_legal_231 kb_27 rfl ?_
                  refine zj_icmp_ne 240 236 X kd_M_legal_233 rfl rfl (fun _ => ?_) (fun _ => ?_)
                  · refine zj_loc [0, 1, 2, 3] (L2 := [(0, .int l0), (1, .int l1), (3, .int l3), (4, .int l4)]) rfl ?_
                    exact j_M_legal_236 X s0 l0 l1 l3 l4
                  · refine zj_iconst 241 0 X kd_M_legal_240 ki_0 rfl ?_
                    refine zj_loc [0, 1, 2, 3] (L2 := [(0, .int l0), (1, .int l1), (3, .int l3), (4, .int l4)]) rfl ?_
                    exact j_M_legal_241 X s0 l0 l1 l3 l4 0
    · refine zj_iload_n 189 2 X kd_M_legal_188 rfl rfl rfl ?_
      refine zj_iload 191 3 X kd_M_legal_189 rfl rfl ?_
      refine mc_M_183 194 X kd_M_legal_191 (Nat.le_of_ble_eq_true rfl) (Nat.le_of_ble_eq_true rfl) (Nat.le_of_ble_eq_true rfl) rfl (fun p4 => ?_)
      refine zj_ng (fun hg => ?_)
      exact zj_zret X kd_M_legal_194 (Decidable.not_not.mp hg)
theorem j_M_legal_159 {P : ZP} {E : ZE} {A : Nat → Prop} (X : ZX E (zmV P) A "FrameMachineModel" b_M_legal 9 (some .boolean) 2 42) (s0 : ZS) (l0 : Int32) (l1 : Int32) (l3 : Int32) (l4 : Int32) (l6 : Int32) : ZJ E (zmV P) A 9 (zFi E (zmV P) A) 159 [(0, .int l0), (1, .int l1), (3, .int l3), (4, .int l4), (6, .int l6)] [] s0 (f_M_legal_159 s0 l0 l1 l3 l4 l6) := by
  unfold f_M_legal_159
  refine zj_iload_n 160 1 X kd_M_legal_159 rfl rfl rfl ?_
  refine zj_if_ne 165 163 X kd_M_legal_160 rfl rfl (fun _ => ?_) (fun _ => ?_)
  · refine zj_iconst 164 0 X kd_M_legal_163 ki_0 rfl ?_
    exact zj_zret X kd_M_legal_164 (Or.inl rfl)
  · exact j_M_legal_165 X s0 l0 l1 l3 l4 l6
theorem j_M_legal_148 {P : ZP} {E : ZE} {A : Nat → Prop} (X : ZX E (zmV P) A "FrameMachineModel" b_M_legal 9 (some .boolean) 2 42) (s0 : ZS) (l0 : Int32) (l1 : Int32) (l3 : Int32) (l4 : Int32) (l6 : Int32) : ZJ E (zmV P) A 9 (zFi E (zmV P) A) 148 [(0, .int l0), (1, .int l1), (3, .int l3), (4, .int l4), (6, .int l6)] [] s0 (f_M_legal_148 s0 l0 l1 l3 l4 l6) := by
  unfold f_M_legal_148
  refine zj_iload_n 149 0 X kd_M_legal_148 rfl rfl rfl ?_
  refine zj_iconst 150 2 X kd_M_legal_149 ki_2 rfl ?_
  refine zj_icmp_eq 159 153 X kd_M_legal_150 rfl rfl (fun _ => ?_) (fun _ => ?_)
  · exact j_M_legal_159 X s0 l0 l1 l3 l4 l6
  · refine zj_iload_n 154 0 X kd_M_legal_153 rfl rfl rfl ?_
    refine zj_bipush 156 11 X kd_M_legal_154 kb_11 rfl ?_
    refine zj_icmp_ne 165 159 X kd_M_legal_156 rfl rfl (fun _ => ?_) (fun _ => ?_)
    · exact j_M_legal_159 X s0 l0 l1 l3 l4 l6
    · exact j_M_legal_165 X s0 l0 l1 l3 l4 l6
theorem j_M_legal_138 {P : ZP} {E : ZE} {A : Nat → Prop} (X : ZX E (zmV P) A "FrameMachineModel" b_M_legal 9 (some .boolean) 2 42) (s0 : ZS) (l0 : Int32) (l1 : Int32) (l3 : Int32) (l4 : Int32) (l6 : Int32) : ZJ E (zmV P) A 9 (zFi E (zmV P) A) 138 [(0, .int l0), (1, .int l1), (3, .int l3), (4, .int l4), (6, .int l6)] [] s0 (f_M_legal_138 s0 l0 l1 l3 l4 l6) := by
  unfold f_M_legal_138
  refine zj_iload 140 4 X kd_M_legal_138 rfl rfl ?_
  refine zj_if_eq 148 143 X kd_M_legal_140 rfl rfl (fun _ => ?_) (fun _ => ?_)
  · exact j_M_legal_148 X s0 l0 l1 l3 l4 l6
  · refine zj_iload_n 144 1 X kd_M_legal_143 rfl rfl rfl ?_
    refine zj_iconst 145 2 X kd_M_legal_144 ki_2 rfl ?_
    refine zj_icmp_ne 163 148 X kd_M_legal_145 rfl rfl (fun _ => ?_) (fun _ => ?_)
    · exact j_M_legal_148 X s0 l0 l1 l3 l4 l6
    · refine zj_iconst 164 0 X kd_M_legal_163 ki_0 rfl ?_
      exact zj_zret X kd_M_legal_164 (Or.inl rfl)
theorem j_M_legal_115 {P : ZP} {E : ZE} {A : Nat → Prop} (X : ZX E (zmV P) A "FrameMachineModel" b_M_legal 9 (some .boolean) 2 42) (s0 : ZS) (l0 : Int32) (l1 : Int32) (l3 : Int32) (l4 : Int32) (l5 : Int32) (t0 : Int32) : ZJ E (zmV P) A 9 (zFi E (zmV P) A) 115 [(0, .int l0), (1, .int l1), (3, .int l3), (4, .int l4), (5, .int l5)] [.int t0] s0 (f_M_legal_115 s0 l0 l1 l3 l4 l5 t0) := by
  unfold f_M_legal_115
  refine zj_istore 117 [(6, .int t0), (0, .int l0), (1, .int l1), (3, .int l3), (4, .int l4), (5, .int l5)] X kd_M_legal_115 (Nat.le_of_ble_eq_true rfl) rfl rfl ?_
  refine zj_iload_n 118 1 X kd_M_legal_117 rfl rfl rfl ?_
  refine zj_bipush 120 29 X kd_M_legal_118 kb_29 rfl ?_
  refine zj_icmp_gt 163 123 X kd_M_legal_120 rfl rfl (fun _ => ?_) (fun _ => ?_)
  · refine zj_iconst 164 0 X kd_M_legal_163 ki_0 rfl ?_
    exact zj_zret X kd_M_legal_164 (Or.inl rfl)
  · refine zj_iload_n 124 2 X kd_M_legal_123 rfl rfl rfl ?_
    refine zj_iconst 125 3 X kd_M_legal_124 ki_3 rfl ?_
    refine zj_icmp_eq 163 128 X kd_M_legal_125 rfl rfl (fun _ => ?_) (fun _ => ?_)
    · refine zj_iconst 164 0 X kd_M_legal_163 ki_0 rfl ?_
      exact zj_zret X kd_M_legal_164 (Or.inl rfl)
    · refine zj_iload 130 5 X kd_M_legal_128 rfl rfl ?_
      refine zj_if_eq 138 133 X kd_M_legal_130 rfl rfl (fun _ => ?_) (fun _ => ?_)
      · refine zj_loc [1, 2, 3, 4, 0] (L2 := [(0, .int l0), (1, .int l1), (3, .int l3), (4, .int l4), (6, .int t0)]) rfl ?_
        exact j_M_legal_138 X s0 l0 l1 l3 l4 t0
      · refine zj_iload_n 134 2 X kd_M_legal_133 rfl rfl rfl ?_
        refine zj_iconst 135 1 X kd_M_legal_134 ki_1 rfl ?_
        refine zj_icmp_ne 163 138 X kd_M_legal_135 rfl rfl (fun _ => ?_) (fun _ => ?_)
        · refine zj_loc [1, 2, 3, 4, 0] (L2 := [(0, .int l0), (1, .int l1), (3, .int l3), (4, .int l4), (6, .int t0)]) rfl ?_
          exact j_M_legal_138 X s0 l0 l1 l3 l4 t0
        · refine zj_iconst 164 0 X kd_M_legal_163 ki_0 rfl ?_
          exact zj_zret X kd_M_legal_164 (Or.inl rfl)
theorem j_M_legal_110 {P : ZP} {E : ZE} {A : Nat → Prop} (X : ZX E (zmV P) A "FrameMachineModel" b_M_legal 9 (some .boolean) 2 42) (s0 : ZS) (l0 : Int32) (l1 : Int32) (l3 : Int32) (l4 : Int32) (l5 : Int32) : ZJ E (zmV P) A 9 (zFi E (zmV P) A) 110 [(0, .int l0), (1, .int l1), (3, .int l3), (4, .int l4), (5, .int l5)] [] s0 (f_M_legal_110 s0 l0 l1 l3 l4 l5) := by
  unfold f_M_legal_110
  refine zj_iconst 111 1 X kd_M_legal_110 ki_1 rfl ?_
  refine zj_goto 115 X kd_M_legal_111 rfl ?_
  exact j_M_legal_115 X s0 l0 l1 l3 l4 l5 1
theorem j_M_legal_90 {P : ZP} {E : ZE} {A : Nat → Prop} (X : ZX E (zmV P) A "FrameMachineModel" b_M_legal 9 (some .boolean) 2 42) (s0 : ZS) (l0 : Int32) (l1 : Int32) (l3 : Int32) (l4 : Int32) (t0 : Int32) : ZJ E (zmV P) A 9 (zFi E (zmV P) A) 90 [(0, .int l0), (1, .int l1), (3, .int l3), (4, .int l4)] [.int t0] s0 (f_M_legal_90 s0 l0 l1 l3 l4 t0) := by
  unfold f_M_legal_90
  refine zj_istore 92 [(5, .int t0), (0, .int l0), (1, .int l1), (3, .int l3), (4, .int l4)] X kd_M_legal_90 (Nat.le_of_ble_eq_true rfl) rfl rfl ?_
  refine zj_iload_n 93 1 X kd_M_legal_92 rfl rfl rfl ?_
  refine zj_bipush 95 12 X kd_M_legal_93 kb_12 rfl ?_
  refine zj_icmp_eq 110 98 X kd_M_legal_95 rfl rfl (fun _ => ?_) (fun _ => ?_)
  · refine zj_loc [1, 2, 3, 4, 0] (L2 := [(0, .int l0), (1, .int l1), (3, .int l3), (4, .int l4), (5, .int t0)]) rfl ?_
    exact j_M_legal_110 X s0 l0 l1 l3 l4 t0
  · refine zj_iload_n 99 1 X kd_M_legal_98 rfl rfl rfl ?_
    refine zj_bipush 101 22 X kd_M_legal_99 kb_22 rfl ?_
    refine zj_icmp_eq 110 104 X kd_M_legal_101 rfl rfl (fun _ => ?_) (fun _ => ?_)
    · refine zj_loc [1, 2, 3, 4, 0] (L2 := [(0, .int l0), (1, .int l1), (3, .int l3), (4, .int l4), (5, .int t0)]) rfl ?_
      exact j_M_legal_110 X s0 l0 l1 l3 l4 t0
    · refine zj_iload_n 105 1 X kd_M_legal_104 rfl rfl rfl ?_
      refine zj_bipush 107 23 X kd_M_legal_105 kb_23 rfl ?_
      refine zj_icmp_ne 114 110 X kd_M_legal_107 rfl rfl (fun _ => ?_) (fun _ => ?_)
      · refine zj_loc [1, 2, 3, 4, 0] (L2 := [(0, .int l0), (1, .int l1), (3, .int l3), (4, .int l4), (5, .int t0)]) rfl ?_
        exact j_M_legal_110 X s0 l0 l1 l3 l4 t0
      · refine zj_iconst 115 0 X kd_M_legal_114 ki_0 rfl ?_
        refine zj_loc [1, 2, 3, 4, 0] (L2 := [(0, .int l0), (1, .int l1), (3, .int l3), (4, .int l4), (5, .int t0)]) rfl ?_
        exact j_M_legal_115 X s0 l0 l1 l3 l4 t0 0
theorem j_M_legal_85 {P : ZP} {E : ZE} {A : Nat → Prop} (X : ZX E (zmV P) A "FrameMachineModel" b_M_legal 9 (some .boolean) 2 42) (s0 : ZS) (l0 : Int32) (l1 : Int32) (l3 : Int32) (l4 : Int32) : ZJ E (zmV P) A 9 (zFi E (zmV P) A) 85 [(0, .int l0), (1, .int l1), (3, .int l3), (4, .int l4)] [] s0 (f_M_legal_85 s0 l0 l1 l3 l4) := by
  unfold f_M_legal_85
  refine zj_iconst 86 1 X kd_M_legal_85 ki_1 rfl ?_
  refine zj_goto 90 X kd_M_legal_86 rfl ?_
  exact j_M_legal_90 X s0 l0 l1 l3 l4 1
theorem j_M_legal_67 {P : ZP} {E : ZE} {A : Nat → Prop} (X : ZX E (zmV P) A "FrameMachineModel" b_M_legal 9 (some .boolean) 2 42) (s0 : ZS) (l0 : Int32) (l1 : Int32) (l3 : Int32) (l4 : Int32) : ZJ E (zmV P) A 9 (zFi E (zmV P) A) 67 [(0, .int l0), (1, .int l1), (3, .int l3), (4, .int l4)] [] s0 (f_M_legal_67 s0 l0 l1 l3 l4) := by
  unfold f_M_legal_67
  refine zj_iload_n 68 0 X kd_M_legal_67 rfl rfl rfl ?_
  refine zj_bipush 70 26 X kd_M_legal_68 kb_26 rfl ?_
  refine zj_icmp_eq 85 73 X kd_M_legal_70 rfl rfl (fun _ => ?_) (fun _ => ?_)
  · exact j_M_legal_85 X s0 l0 l1 l3 l4
  · refine zj_iload_n 74 0 X kd_M_legal_73 rfl rfl rfl ?_
    refine zj_bipush 76 27 X kd_M_legal_74 kb_27 rfl ?_
    refine zj_icmp_eq 85 79 X kd_M_legal_76 rfl rfl (fun _ => ?_) (fun _ => ?_)
    · exact j_M_legal_85 X s0 l0 l1 l3 l4
    · refine zj_iload_n 80 0 X kd_M_legal_79 rfl rfl rfl ?_
      refine zj_bipush 82 29 X kd_M_legal_80 kb_29 rfl ?_
      refine zj_icmp_ne 89 85 X kd_M_legal_82 rfl rfl (fun _ => ?_) (fun _ => ?_)
      · exact j_M_legal_85 X s0 l0 l1 l3 l4
      · refine zj_iconst 90 0 X kd_M_legal_89 ki_0 rfl ?_
        exact j_M_legal_90 X s0 l0 l1 l3 l4 0
theorem j_M_legal {P : ZP} {E : ZE} {A : Nat → Prop} (X : ZX E (zmV P) A "FrameMachineModel" b_M_legal 9 (some .boolean) 2 42) (s0 : ZS) (x1 : Int32) (x2 : Int32) (x3 : Int32) (x4 : Int32) (x5 : Int32) : ZJ E (zmV P) A 9 (zFi E (zmV P) A) 0 [(0, .int x1), (1, .int x2), (2, .int x3), (3, .int x4), (4, .int x5)] [] s0 (f_M_legal s0 x1 x2 x3 x4 x5) := by
  unfold f_M_legal
  refine zj_iload_n 1 0 X kd_M_legal_0 rfl rfl rfl ?_
  refine zj_bipush 3 21 X kd_M_legal_1 kb_21 rfl ?_
  refine zj_icmp_ne 23 6 X kd_M_legal_3 rfl rfl (fun _ => ?_) (fun _ => ?_)
  · refine zj_iload_n 7 1 X kd_M_legal_6 rfl rfl rfl ?_
    refine zj_bipush 9 8 X kd_M_legal_7 kb_8 rfl ?_
    refine zj_imul 10 X kd_M_legal_9 rfl ?_
    refine zj_iload_n 11 2 X kd_M_legal_10 rfl rfl rfl ?_
    refine zj_iadd 12 X kd_M_legal_11 rfl ?_
    refine zj_bipush 14 16 X kd_M_legal_12 kb_16 rfl ?_
    refine zj_icmp_ge 21 17 X kd_M_legal_14 rfl rfl (fun _ => ?_) (fun _ => ?_)
    · refine zj_iconst 22 0 X kd_M_legal_21 ki_0 rfl ?_
      exact zj_zret X kd_M_legal_22 (Or.inl rfl)
    · refine zj_iconst 18 1 X kd_M_legal_17 ki_1 rfl ?_
      refine zj_goto 22 X kd_M_legal_18 rfl ?_
      exact zj_zret X kd_M_legal_22 (Or.inr rfl)
  · refine zj_iload_n 24 0 X kd_M_legal_23 rfl rfl rfl ?_
    refine zj_bipush 26 24 X kd_M_legal_24 kb_24 rfl ?_
    refine zj_icmp_ne 41 29 X kd_M_legal_26 rfl rfl (fun _ => ?_) (fun _ => ?_)
    · refine zj_iload 31 4 X kd_M_legal_29 rfl rfl ?_
      refine zj_iconst 32 5 X kd_M_legal_31 ki_5 rfl ?_
      refine zj_icmp_ge 39 35 X kd_M_legal_32 rfl rfl (fun _ => ?_) (fun _ => ?_)
      · refine zj_iconst 40 0 X kd_M_legal_39 ki_0 rfl ?_
        exact zj_zret X kd_M_legal_40 (Or.inl rfl)
      · refine zj_iconst 36 1 X kd_M_legal_35 ki_1 rfl ?_
        refine zj_goto 40 X kd_M_legal_36 rfl ?_
        exact zj_zret X kd_M_legal_40 (Or.inr rfl)
    · refine zj_iload_n 42 0 X kd_M_legal_41 rfl rfl rfl ?_
      refine zj_bipush 44 25 X kd_M_legal_42 kb_25 rfl ?_
      refine zj_icmp_eq 53 47 X kd_M_legal_44 rfl rfl (fun _ => ?_) (fun _ => ?_)
      · refine zj_iconst 54 1 X kd_M_legal_53 ki_1 rfl ?_
        exact zj_zret X kd_M_legal_54 (Or.inr rfl)
      · refine zj_iload_n 48 0 X kd_M_legal_47 rfl rfl rfl ?_
        refine zj_bipush 50 28 X kd_M_legal_48 kb_28 rfl ?_
        refine zj_icmp_ne 55 53 X kd_M_legal_50 rfl rfl (fun _ => ?_) (fun _ => ?_)
        · refine zj_iconst 54 1 X kd_M_legal_53 ki_1 rfl ?_
          exact zj_zret X kd_M_legal_54 (Or.inr rfl)
        · refine zj_iload_n 56 0 X kd_M_legal_55 rfl rfl rfl ?_
          refine zj_bipush 58 18 X kd_M_legal_56 kb_18 rfl ?_
          refine zj_icmp_lt 67 61 X kd_M_legal_58 rfl rfl (fun _ => ?_) (fun _ => ?_)
          · refine zj_loc [0, 1, 3, 4] (L2 := [(0, .int x1), (1, .int x2), (3, .int x4), (4, .int x5)]) rfl ?_
            exact j_M_legal_67 X s0 x1 x2 x4 x5
          · refine zj_iload_n 62 0 X kd_M_legal_61 rfl rfl rfl ?_
            refine zj_bipush 64 20 X kd_M_legal_62 kb_20 rfl ?_
            refine zj_icmp_le 85 67 X kd_M_legal_64 rfl rfl (fun _ => ?_) (fun _ => ?_)
            · refine zj_loc [0, 1, 3, 4] (L2 := [(0, .int x1), (1, .int x2), (3, .int x4), (4, .int x5)]) rfl ?_
              exact j_M_legal_85 X s0 x1 x2 x4 x5
            · refine zj_loc [0, 1, 3, 4] (L2 := [(0, .int x1), (1, .int x2), (3, .int x4), (4, .int x5)]) rfl ?_
              exact j_M_legal_67 X s0 x1 x2 x4 x5
theorem c_M_legal {l : Launch} {P : ZP} (hV : ZVok (zmV P)) (s0 : ZS) (x1 : Int32) (x2 : Int32) (x3 : Int32) (x4 : Int32) (x5 : Int32) {z : Int32 × ZS} (h : f_M_legal s0 x1 x2 x3 x4 x5 = some z) : zMi l y_M_legal b_M_legal 9 (some .boolean) 2 42 (zmV P) s0 [.int x1, .int x2, .int x3, .int x4, .int x5] z :=
  zMi_of (by decide +kernel) rfl rfl (Nat.le_of_ble_eq_true rfl) hV (fun _ X => j_M_legal X s0 x1 x2 x3 x4 x5) h
theorem kc_M_268 : zCS "FrameMachineModel" 268 y_M_legal b_M_legal 9 (some .boolean) 5 := ⟨⟨kw_954, kw_955, kw_11, kw_956⟩, by decide +kernel, by decide +kernel, by decide +kernel⟩
theorem mc_M_268 {ρ : Type} {E : ZE} {P : ZP} {A : Nat → Prop} {cc : ByteArray} {nL : Nat} {ret : Option FieldType} {fr lo : Nat} {F : ρ → State → Prop} {pc : Nat} {L : List (Nat × Value)} {rest : List Value} {σ : ZS} {x1 : Int32} {x2 : Int32} {x3 : Int32} {x4 : Int32} {x5 : Int32} {K : Int32 × ZS → Option ρ} (q : Nat) (X : ZX E (zmV P) A "FrameMachineModel" cc nL ret fr lo) (d : decode cc pc = .ok (.invokestatic 268, 3)) (hfr : 2 + 1 ≤ fr) (hlo : 8 + (9 + 11) + 42 ≤ lo) (hr : (rest.map fun v => v.category).sum ≤ 8) (hq : pc + 3 = q) (kk : ∀ p : Int32 × ZS, ZJ E (zmV P) A nL F q L (.int p.1 :: rest) p.2 (K p)) : ZJ E (zmV P) A nL F pc L (.int x5 :: .int x4 :: .int x3 :: .int x2 :: .int x1 :: rest) σ ((f_M_legal σ x1 x2 x3 x4 x5).bind K) :=
  zj_cSi q (As := [.int x1, .int x2, .int x3, .int x4, .int x5]) (rest := rest) X kc_M_268 hfr hlo (fun p h => c_M_legal (zx_v X) σ x1 x2 x3 x4 x5 h) rfl hr d hq kk
-- FrameMachineModel.needsAbove(II)Z
theorem kd_M_needsAbove_0 : decode b_M_needsAbove 0 = .ok (.iload_n 0, 1) := by decide +kernel
theorem kd_M_needsAbove_1 : decode b_M_needsAbove 1 = .ok (.bipush 26, 2) := by decide +kernel
theorem kd_M_needsAbove_3 : decode b_M_needsAbove 3 = .ok (.if_icmp .eq 25, 3) := by decide +kernel
theorem kd_M_needsAbove_6 : decode b_M_needsAbove 6 = .ok (.iload_n 0, 1) := by decide +kernel
theorem kd_M_needsAbove_7 : decode b_M_needsAbove 7 = .ok (.bipush 28, 2) := by decide +kernel
theorem kd_M_needsAbove_9 : decode b_M_needsAbove 9 = .ok (.if_icmp .eq 19, 3) := by decide +kernel
theorem kd_M_needsAbove_12 : decode b_M_needsAbove 12 = .ok (.iload_n 0, 1) := by decide +kernel
theorem kd_M_needsAbove_13 : decode b_M_needsAbove 13 = .ok (.bipush 24, 2) := by decide +kernel
theorem kd_M_needsAbove_15 : decode b_M_needsAbove 15 = .ok (.if_icmp .ne 17, 3) := by decide +kernel
theorem kd_M_needsAbove_18 : decode b_M_needsAbove 18 = .ok (.iload_n 1, 1) := by decide +kernel
theorem kd_M_needsAbove_19 : decode b_M_needsAbove 19 = .ok (.iconst 2, 1) := by decide +kernel
theorem kd_M_needsAbove_20 : decode b_M_needsAbove 20 = .ok (.if_icmp .eq 8, 3) := by decide +kernel
theorem kd_M_needsAbove_23 : decode b_M_needsAbove 23 = .ok (.iload_n 1, 1) := by decide +kernel
theorem kd_M_needsAbove_24 : decode b_M_needsAbove 24 = .ok (.iconst 3, 1) := by decide +kernel
theorem kd_M_needsAbove_25 : decode b_M_needsAbove 25 = .ok (.if_icmp .ne 7, 3) := by decide +kernel
theorem kd_M_needsAbove_28 : decode b_M_needsAbove 28 = .ok (.iconst 1, 1) := by decide +kernel
theorem kd_M_needsAbove_29 : decode b_M_needsAbove 29 = .ok (.goto 4, 3) := by decide +kernel
theorem kd_M_needsAbove_32 : decode b_M_needsAbove 32 = .ok (.iconst 0, 1) := by decide +kernel
theorem kd_M_needsAbove_33 : decode b_M_needsAbove 33 = .ok (.ireturn, 1) := by decide +kernel
noncomputable def f_M_needsAbove_28 (s0 : ZS)  : Option (Int32 × ZS) :=
  some (1, s0)
noncomputable def f_M_needsAbove (s0 : ZS) (x1 : Int32) (x2 : Int32) : Option (Int32 × ZS) :=
  if x1 = 26 then
    f_M_needsAbove_28 s0
  else
    if x1 = 28 then
      f_M_needsAbove_28 s0
    else
      if x1 = 24 then
        if x2 = 2 then
          f_M_needsAbove_28 s0
        else
          if x2 = 3 then
            f_M_needsAbove_28 s0
          else
            some (0, s0)
      else
        some (0, s0)
theorem j_M_needsAbove_28 {P : ZP} {E : ZE} {A : Nat → Prop} (X : ZX E (zmV P) A "FrameMachineModel" b_M_needsAbove 2 (some .boolean) 0 0) (s0 : ZS)  : ZJ E (zmV P) A 2 (zFi E (zmV P) A) 28 [] [] s0 (f_M_needsAbove_28 s0) := by
  unfold f_M_needsAbove_28
  refine zj_iconst 29 1 X kd_M_needsAbove_28 ki_1 rfl ?_
  refine zj_goto 33 X kd_M_needsAbove_29 rfl ?_
  exact zj_zret X kd_M_needsAbove_33 (Or.inr rfl)
theorem j_M_needsAbove {P : ZP} {E : ZE} {A : Nat → Prop} (X : ZX E (zmV P) A "FrameMachineModel" b_M_needsAbove 2 (some .boolean) 0 0) (s0 : ZS) (x1 : Int32) (x2 : Int32) : ZJ E (zmV P) A 2 (zFi E (zmV P) A) 0 [(0, .int x1), (1, .int x2)] [] s0 (f_M_needsAbove s0 x1 x2) := by
  unfold f_M_needsAbove
  refine zj_iload_n 1 0 X kd_M_needsAbove_0 rfl rfl rfl ?_
  refine zj_bipush 3 26 X kd_M_needsAbove_1 kb_26 rfl ?_
  refine zj_icmp_eq 28 6 X kd_M_needsAbove_3 rfl rfl (fun _ => ?_) (fun _ => ?_)
  · refine zj_loc [] (L2 := []) rfl ?_
    exact j_M_needsAbove_28 X s0
  · refine zj_iload_n 7 0 X kd_M_needsAbove_6 rfl rfl rfl ?_
    refine zj_bipush 9 28 X kd_M_needsAbove_7 kb_28 rfl ?_
    refine zj_icmp_eq 28 12 X kd_M_needsAbove_9 rfl rfl (fun _ => ?_) (fun _ => ?_)
    · refine zj_loc [] (L2 := []) rfl ?_
      exact j_M_needsAbove_28 X s0
    · refine zj_iload_n 13 0 X kd_M_needsAbove_12 rfl rfl rfl ?_
      refine zj_bipush 15 24 X kd_M_needsAbove_13 kb_24 rfl ?_
      refine zj_icmp_ne 32 18 X kd_M_needsAbove_15 rfl rfl (fun _ => ?_) (fun _ => ?_)
      · refine zj_iload_n 19 1 X kd_M_needsAbove_18 rfl rfl rfl ?_
        refine zj_iconst 20 2 X kd_M_needsAbove_19 ki_2 rfl ?_
        refine zj_icmp_eq 28 23 X kd_M_needsAbove_20 rfl rfl (fun _ => ?_) (fun _ => ?_)
        · refine zj_loc [] (L2 := []) rfl ?_
          exact j_M_needsAbove_28 X s0
        · refine zj_iload_n 24 1 X kd_M_needsAbove_23 rfl rfl rfl ?_
          refine zj_iconst 25 3 X kd_M_needsAbove_24 ki_3 rfl ?_
          refine zj_icmp_ne 32 28 X kd_M_needsAbove_25 rfl rfl (fun _ => ?_) (fun _ => ?_)
          · refine zj_loc [] (L2 := []) rfl ?_
            exact j_M_needsAbove_28 X s0
          · refine zj_iconst 33 0 X kd_M_needsAbove_32 ki_0 rfl ?_
            exact zj_zret X kd_M_needsAbove_33 (Or.inl rfl)
      · refine zj_iconst 33 0 X kd_M_needsAbove_32 ki_0 rfl ?_
        exact zj_zret X kd_M_needsAbove_33 (Or.inl rfl)
theorem c_M_needsAbove {l : Launch} {P : ZP} (hV : ZVok (zmV P)) (s0 : ZS) (x1 : Int32) (x2 : Int32) {z : Int32 × ZS} (h : f_M_needsAbove s0 x1 x2 = some z) : zMi l y_M_needsAbove b_M_needsAbove 2 (some .boolean) 0 0 (zmV P) s0 [.int x1, .int x2] z :=
  zMi_of (by decide +kernel) rfl rfl (Nat.le_of_ble_eq_true rfl) hV (fun _ X => j_M_needsAbove X s0 x1 x2) h
theorem kc_M_275 : zCS "FrameMachineModel" 275 y_M_needsAbove b_M_needsAbove 2 (some .boolean) 2 := ⟨⟨kw_969, kw_970, kw_11, kw_971⟩, by decide +kernel, by decide +kernel, by decide +kernel⟩
theorem mc_M_275 {ρ : Type} {E : ZE} {P : ZP} {A : Nat → Prop} {cc : ByteArray} {nL : Nat} {ret : Option FieldType} {fr lo : Nat} {F : ρ → State → Prop} {pc : Nat} {L : List (Nat × Value)} {rest : List Value} {σ : ZS} {x1 : Int32} {x2 : Int32} {K : Int32 × ZS → Option ρ} (q : Nat) (X : ZX E (zmV P) A "FrameMachineModel" cc nL ret fr lo) (d : decode cc pc = .ok (.invokestatic 275, 3)) (hfr : 0 + 1 ≤ fr) (hlo : 8 + (2 + 11) + 0 ≤ lo) (hr : (rest.map fun v => v.category).sum ≤ 8) (hq : pc + 3 = q) (kk : ∀ p : Int32 × ZS, ZJ E (zmV P) A nL F q L (.int p.1 :: rest) p.2 (K p)) : ZJ E (zmV P) A nL F pc L (.int x2 :: .int x1 :: rest) σ ((f_M_needsAbove σ x1 x2).bind K) :=
  zj_cSi q (As := [.int x1, .int x2]) (rest := rest) X kc_M_275 hfr hlo (fun p h => c_M_needsAbove (zx_v X) σ x1 x2 h) rfl hr d hq kk
-- FrameMachineModel.reckons(IIIII)V
theorem kd_M_reckons_0 : decode b_M_reckons 0 = .ok (.aload_n 0, 1) := by decide +kernel
theorem kd_M_reckons_1 : decode b_M_reckons 1 = .ok (.iload 4, 2) := by decide +kernel
theorem kd_M_reckons_3 : decode b_M_reckons 3 = .ok (.iload 5, 2) := by decide +kernel
theorem kd_M_reckons_5 : decode b_M_reckons 5 = .ok (.iload_n 2, 1) := by decide +kernel
theorem kd_M_reckons_6 : decode b_M_reckons 6 = .ok (.invokevirtual 192, 3) := by decide +kernel
theorem kd_M_reckons_9 : decode b_M_reckons 9 = .ok (.aload_n 0, 1) := by decide +kernel
theorem kd_M_reckons_10 : decode b_M_reckons 10 = .ok (.getfield 13, 3) := by decide +kernel
theorem kd_M_reckons_13 : decode b_M_reckons 13 = .ok (.iload_n 3, 1) := by decide +kernel
theorem kd_M_reckons_14 : decode b_M_reckons 14 = .ok (.iaload, 1) := by decide +kernel
theorem kd_M_reckons_15 : decode b_M_reckons 15 = .ok (.i2l, 1) := by decide +kernel
theorem kd_M_reckons_16 : decode b_M_reckons 16 = .ok (.iload_n 2, 1) := by decide +kernel
theorem kd_M_reckons_17 : decode b_M_reckons 17 = .ok (.invokestatic 161, 3) := by decide +kernel
theorem kd_M_reckons_20 : decode b_M_reckons 20 = .ok (.lstore 6, 2) := by decide +kernel
theorem kd_M_reckons_22 : decode b_M_reckons 22 = .ok (.iload_n 1, 1) := by decide +kernel
theorem kd_M_reckons_23 : decode b_M_reckons 23 = .ok (.iconst 1, 1) := by decide +kernel
theorem kd_M_reckons_24 : decode b_M_reckons 24 = .ok (.if_icmp .eq 9, 3) := by decide +kernel
theorem kd_M_reckons_27 : decode b_M_reckons 27 = .ok (.iload_n 1, 1) := by decide +kernel
theorem kd_M_reckons_28 : decode b_M_reckons 28 = .ok (.bipush 13, 2) := by decide +kernel
theorem kd_M_reckons_30 : decode b_M_reckons 30 = .ok (.if_icmp .ne 42, 3) := by decide +kernel
theorem kd_M_reckons_33 : decode b_M_reckons 33 = .ok (.iload_n 1, 1) := by decide +kernel
theorem kd_M_reckons_34 : decode b_M_reckons 34 = .ok (.iconst 1, 1) := by decide +kernel
theorem kd_M_reckons_35 : decode b_M_reckons 35 = .ok (.if_icmp .ne 8, 3) := by decide +kernel
theorem kd_M_reckons_38 : decode b_M_reckons 38 = .ok (.lload 6, 2) := by decide +kernel
theorem kd_M_reckons_40 : decode b_M_reckons 40 = .ok (.goto 4, 3) := by decide +kernel
theorem kd_M_reckons_43 : decode b_M_reckons 43 = .ok (.lconst 0, 1) := by decide +kernel
theorem kd_M_reckons_44 : decode b_M_reckons 44 = .ok (.lstore 8, 2) := by decide +kernel
theorem kd_M_reckons_46 : decode b_M_reckons 46 = .ok (.aload_n 0, 1) := by decide +kernel
theorem kd_M_reckons_47 : decode b_M_reckons 47 = .ok (.iload 4, 2) := by decide +kernel
theorem kd_M_reckons_49 : decode b_M_reckons 49 = .ok (.iload 5, 2) := by decide +kernel
theorem kd_M_reckons_51 : decode b_M_reckons 51 = .ok (.iload_n 2, 1) := by decide +kernel
theorem kd_M_reckons_52 : decode b_M_reckons 52 = .ok (.lload 8, 2) := by decide +kernel
theorem kd_M_reckons_54 : decode b_M_reckons 54 = .ok (.invokevirtual 196, 3) := by decide +kernel
theorem kd_M_reckons_57 : decode b_M_reckons 57 = .ok (.aload_n 0, 1) := by decide +kernel
theorem kd_M_reckons_58 : decode b_M_reckons 58 = .ok (.getfield 64, 3) := by decide +kernel
theorem kd_M_reckons_61 : decode b_M_reckons 61 = .ok (.ifCond .ne 10, 3) := by decide +kernel
theorem kd_M_reckons_64 : decode b_M_reckons 64 = .ok (.aload_n 0, 1) := by decide +kernel
theorem kd_M_reckons_65 : decode b_M_reckons 65 = .ok (.lload 8, 2) := by decide +kernel
theorem kd_M_reckons_67 : decode b_M_reckons 67 = .ok (.iload_n 2, 1) := by decide +kernel
theorem kd_M_reckons_68 : decode b_M_reckons 68 = .ok (.invokevirtual 170, 3) := by decide +kernel
theorem kd_M_reckons_71 : decode b_M_reckons 71 = .ok (.return_, 1) := by decide +kernel
theorem kd_M_reckons_72 : decode b_M_reckons 72 = .ok (.aload_n 0, 1) := by decide +kernel
theorem kd_M_reckons_73 : decode b_M_reckons 73 = .ok (.iload 4, 2) := by decide +kernel
theorem kd_M_reckons_75 : decode b_M_reckons 75 = .ok (.iload 5, 2) := by decide +kernel
theorem kd_M_reckons_77 : decode b_M_reckons 77 = .ok (.iload_n 2, 1) := by decide +kernel
theorem kd_M_reckons_78 : decode b_M_reckons 78 = .ok (.invokevirtual 200, 3) := by decide +kernel
theorem kd_M_reckons_81 : decode b_M_reckons 81 = .ok (.lstore 8, 2) := by decide +kernel
theorem kd_M_reckons_83 : decode b_M_reckons 83 = .ok (.aload_n 0, 1) := by decide +kernel
theorem kd_M_reckons_84 : decode b_M_reckons 84 = .ok (.getfield 64, 3) := by decide +kernel
theorem kd_M_reckons_87 : decode b_M_reckons 87 = .ok (.ifCond .eq 4, 3) := by decide +kernel
theorem kd_M_reckons_90 : decode b_M_reckons 90 = .ok (.return_, 1) := by decide +kernel
theorem kd_M_reckons_91 : decode b_M_reckons 91 = .ok (.aload_n 0, 1) := by decide +kernel
theorem kd_M_reckons_92 : decode b_M_reckons 92 = .ok (.invokevirtual 204, 3) := by decide +kernel
theorem kd_M_reckons_95 : decode b_M_reckons 95 = .ok (.istore 10, 2) := by decide +kernel
theorem kd_M_reckons_97 : decode b_M_reckons 97 = .ok (.lconst 0, 1) := by decide +kernel
theorem kd_M_reckons_98 : decode b_M_reckons 98 = .ok (.lstore 11, 2) := by decide +kernel
theorem kd_M_reckons_100 : decode b_M_reckons 100 = .ok (.iload_n 1, 1) := by decide +kernel
theorem kd_M_reckons_101 : decode b_M_reckons 101 = .ok (.iconst 3, 1) := by decide +kernel
theorem kd_M_reckons_102 : decode b_M_reckons 102 = .ok (.if_icmp .eq 9, 3) := by decide +kernel
theorem kd_M_reckons_105 : decode b_M_reckons 105 = .ok (.iload_n 1, 1) := by decide +kernel
theorem kd_M_reckons_106 : decode b_M_reckons 106 = .ok (.bipush 9, 2) := by decide +kernel
theorem kd_M_reckons_108 : decode b_M_reckons 108 = .ok (.if_icmp .ne 17, 3) := by decide +kernel
theorem kd_M_reckons_111 : decode b_M_reckons 111 = .ok (.aload_n 0, 1) := by decide +kernel
theorem kd_M_reckons_112 : decode b_M_reckons 112 = .ok (.lload 6, 2) := by decide +kernel
theorem kd_M_reckons_114 : decode b_M_reckons 114 = .ok (.lload 8, 2) := by decide +kernel
theorem kd_M_reckons_116 : decode b_M_reckons 116 = .ok (.iload_n 2, 1) := by decide +kernel
theorem kd_M_reckons_117 : decode b_M_reckons 117 = .ok (.invokevirtual 207, 3) := by decide +kernel
theorem kd_M_reckons_120 : decode b_M_reckons 120 = .ok (.lstore 11, 2) := by decide +kernel
theorem kd_M_reckons_122 : decode b_M_reckons 122 = .ok (.goto 154, 3) := by decide +kernel
theorem kd_M_reckons_125 : decode b_M_reckons 125 = .ok (.iload_n 1, 1) := by decide +kernel
theorem kd_M_reckons_126 : decode b_M_reckons 126 = .ok (.iconst 4, 1) := by decide +kernel
theorem kd_M_reckons_127 : decode b_M_reckons 127 = .ok (.if_icmp .eq 8, 3) := by decide +kernel
theorem kd_M_reckons_130 : decode b_M_reckons 130 = .ok (.iload_n 1, 1) := by decide +kernel
theorem kd_M_reckons_131 : decode b_M_reckons 131 = .ok (.iconst 5, 1) := by decide +kernel
theorem kd_M_reckons_132 : decode b_M_reckons 132 = .ok (.if_icmp .ne 27, 3) := by decide +kernel
theorem kd_M_reckons_135 : decode b_M_reckons 135 = .ok (.aload_n 0, 1) := by decide +kernel
theorem kd_M_reckons_136 : decode b_M_reckons 136 = .ok (.lload 6, 2) := by decide +kernel
theorem kd_M_reckons_138 : decode b_M_reckons 138 = .ok (.lload 8, 2) := by decide +kernel
theorem kd_M_reckons_140 : decode b_M_reckons 140 = .ok (.iload_n 2, 1) := by decide +kernel
theorem kd_M_reckons_141 : decode b_M_reckons 141 = .ok (.iload_n 1, 1) := by decide +kernel
theorem kd_M_reckons_142 : decode b_M_reckons 142 = .ok (.iconst 5, 1) := by decide +kernel
theorem kd_M_reckons_143 : decode b_M_reckons 143 = .ok (.if_icmp .ne 7, 3) := by decide +kernel
theorem kd_M_reckons_146 : decode b_M_reckons 146 = .ok (.iconst 1, 1) := by decide +kernel
theorem kd_M_reckons_147 : decode b_M_reckons 147 = .ok (.goto 4, 3) := by decide +kernel
theorem kd_M_reckons_150 : decode b_M_reckons 150 = .ok (.iconst 0, 1) := by decide +kernel
theorem kd_M_reckons_151 : decode b_M_reckons 151 = .ok (.invokevirtual 211, 3) := by decide +kernel
theorem kd_M_reckons_154 : decode b_M_reckons 154 = .ok (.lstore 11, 2) := by decide +kernel
theorem kd_M_reckons_156 : decode b_M_reckons 156 = .ok (.goto 120, 3) := by decide +kernel
theorem kd_M_reckons_159 : decode b_M_reckons 159 = .ok (.iload_n 1, 1) := by decide +kernel
theorem kd_M_reckons_160 : decode b_M_reckons 160 = .ok (.bipush 10, 2) := by decide +kernel
theorem kd_M_reckons_162 : decode b_M_reckons 162 = .ok (.if_icmp .ne 18, 3) := by decide +kernel
theorem kd_M_reckons_165 : decode b_M_reckons 165 = .ok (.aload_n 0, 1) := by decide +kernel
theorem kd_M_reckons_166 : decode b_M_reckons 166 = .ok (.lload 8, 2) := by decide +kernel
theorem kd_M_reckons_168 : decode b_M_reckons 168 = .ok (.lload 6, 2) := by decide +kernel
theorem kd_M_reckons_170 : decode b_M_reckons 170 = .ok (.iload_n 2, 1) := by decide +kernel
theorem kd_M_reckons_171 : decode b_M_reckons 171 = .ok (.iconst 0, 1) := by decide +kernel
theorem kd_M_reckons_172 : decode b_M_reckons 172 = .ok (.invokevirtual 211, 3) := by decide +kernel
theorem kd_M_reckons_175 : decode b_M_reckons 175 = .ok (.lstore 11, 2) := by decide +kernel
theorem kd_M_reckons_177 : decode b_M_reckons 177 = .ok (.goto 99, 3) := by decide +kernel
theorem kd_M_reckons_180 : decode b_M_reckons 180 = .ok (.iload_n 1, 1) := by decide +kernel
theorem kd_M_reckons_181 : decode b_M_reckons 181 = .ok (.bipush 15, 2) := by decide +kernel
theorem kd_M_reckons_183 : decode b_M_reckons 183 = .ok (.if_icmp .ne 17, 3) := by decide +kernel
theorem kd_M_reckons_186 : decode b_M_reckons 186 = .ok (.aload_n 0, 1) := by decide +kernel
theorem kd_M_reckons_187 : decode b_M_reckons 187 = .ok (.lconst 0, 1) := by decide +kernel
theorem kd_M_reckons_188 : decode b_M_reckons 188 = .ok (.lload 8, 2) := by decide +kernel
theorem kd_M_reckons_190 : decode b_M_reckons 190 = .ok (.iload_n 2, 1) := by decide +kernel
theorem kd_M_reckons_191 : decode b_M_reckons 191 = .ok (.iconst 0, 1) := by decide +kernel
theorem kd_M_reckons_192 : decode b_M_reckons 192 = .ok (.invokevirtual 211, 3) := by decide +kernel
theorem kd_M_reckons_195 : decode b_M_reckons 195 = .ok (.lstore 11, 2) := by decide +kernel
theorem kd_M_reckons_197 : decode b_M_reckons 197 = .ok (.goto 79, 3) := by decide +kernel
theorem kd_M_reckons_200 : decode b_M_reckons 200 = .ok (.iload_n 1, 1) := by decide +kernel
theorem kd_M_reckons_201 : decode b_M_reckons 201 = .ok (.ifCond .eq 9, 3) := by decide +kernel
theorem kd_M_reckons_204 : decode b_M_reckons 204 = .ok (.iload_n 1, 1) := by decide +kernel
theorem kd_M_reckons_205 : decode b_M_reckons 205 = .ok (.bipush 14, 2) := by decide +kernel
theorem kd_M_reckons_207 : decode b_M_reckons 207 = .ok (.if_icmp .ne 8, 3) := by decide +kernel
theorem kd_M_reckons_210 : decode b_M_reckons 210 = .ok (.lload 8, 2) := by decide +kernel
theorem kd_M_reckons_212 : decode b_M_reckons 212 = .ok (.goto 55, 3) := by decide +kernel
theorem kd_M_reckons_215 : decode b_M_reckons 215 = .ok (.iload_n 1, 1) := by decide +kernel
theorem kd_M_reckons_216 : decode b_M_reckons 216 = .ok (.bipush 6, 2) := by decide +kernel
theorem kd_M_reckons_218 : decode b_M_reckons 218 = .ok (.if_icmp .ne 11, 3) := by decide +kernel
theorem kd_M_reckons_221 : decode b_M_reckons 221 = .ok (.lload 6, 2) := by decide +kernel
theorem kd_M_reckons_223 : decode b_M_reckons 223 = .ok (.lload 8, 2) := by decide +kernel
theorem kd_M_reckons_225 : decode b_M_reckons 225 = .ok (.land, 1) := by decide +kernel
theorem kd_M_reckons_226 : decode b_M_reckons 226 = .ok (.goto 41, 3) := by decide +kernel
theorem kd_M_reckons_229 : decode b_M_reckons 229 = .ok (.iload_n 1, 1) := by decide +kernel
theorem kd_M_reckons_230 : decode b_M_reckons 230 = .ok (.bipush 7, 2) := by decide +kernel
theorem kd_M_reckons_232 : decode b_M_reckons 232 = .ok (.if_icmp .ne 11, 3) := by decide +kernel
theorem kd_M_reckons_235 : decode b_M_reckons 235 = .ok (.lload 6, 2) := by decide +kernel
theorem kd_M_reckons_237 : decode b_M_reckons 237 = .ok (.lload 8, 2) := by decide +kernel
theorem kd_M_reckons_239 : decode b_M_reckons 239 = .ok (.lor, 1) := by decide +kernel
theorem kd_M_reckons_240 : decode b_M_reckons 240 = .ok (.goto 27, 3) := by decide +kernel
theorem kd_M_reckons_243 : decode b_M_reckons 243 = .ok (.iload_n 1, 1) := by decide +kernel
theorem kd_M_reckons_244 : decode b_M_reckons 244 = .ok (.bipush 8, 2) := by decide +kernel
theorem kd_M_reckons_246 : decode b_M_reckons 246 = .ok (.if_icmp .ne 11, 3) := by decide +kernel
theorem kd_M_reckons_249 : decode b_M_reckons 249 = .ok (.lload 6, 2) := by decide +kernel
theorem kd_M_reckons_251 : decode b_M_reckons 251 = .ok (.lload 8, 2) := by decide +kernel
theorem kd_M_reckons_253 : decode b_M_reckons 253 = .ok (.lxor, 1) := by decide +kernel
theorem kd_M_reckons_254 : decode b_M_reckons 254 = .ok (.goto 13, 3) := by decide +kernel
theorem kd_M_reckons_257 : decode b_M_reckons 257 = .ok (.lload 8, 2) := by decide +kernel
theorem kd_M_reckons_259 : decode b_M_reckons 259 = .ok (.ldc2_w 165, 3) := by decide +kernel
theorem kd_M_reckons_262 : decode b_M_reckons 262 = .ok (.lxor, 1) := by decide +kernel
theorem kd_M_reckons_263 : decode b_M_reckons 263 = .ok (.iload_n 2, 1) := by decide +kernel
theorem kd_M_reckons_264 : decode b_M_reckons 264 = .ok (.invokestatic 161, 3) := by decide +kernel
theorem kd_M_reckons_267 : decode b_M_reckons 267 = .ok (.lstore 11, 2) := by decide +kernel
theorem kd_M_reckons_269 : decode b_M_reckons 269 = .ok (.aload_n 0, 1) := by decide +kernel
theorem kd_M_reckons_270 : decode b_M_reckons 270 = .ok (.lload 11, 2) := by decide +kernel
theorem kd_M_reckons_272 : decode b_M_reckons 272 = .ok (.iload_n 2, 1) := by decide +kernel
theorem kd_M_reckons_273 : decode b_M_reckons 273 = .ok (.invokevirtual 170, 3) := by decide +kernel
theorem kd_M_reckons_276 : decode b_M_reckons 276 = .ok (.iload_n 1, 1) := by decide +kernel
theorem kd_M_reckons_277 : decode b_M_reckons 277 = .ok (.bipush 9, 2) := by decide +kernel
theorem kd_M_reckons_279 : decode b_M_reckons 279 = .ok (.if_icmp .ge 16, 3) := by decide +kernel
theorem kd_M_reckons_282 : decode b_M_reckons 282 = .ok (.iload_n 1, 1) := by decide +kernel
theorem kd_M_reckons_283 : decode b_M_reckons 283 = .ok (.iconst 5, 1) := by decide +kernel
theorem kd_M_reckons_284 : decode b_M_reckons 284 = .ok (.if_icmp .eq 11, 3) := by decide +kernel
theorem kd_M_reckons_287 : decode b_M_reckons 287 = .ok (.aload_n 0, 1) := by decide +kernel
theorem kd_M_reckons_288 : decode b_M_reckons 288 = .ok (.iload_n 3, 1) := by decide +kernel
theorem kd_M_reckons_289 : decode b_M_reckons 289 = .ok (.iload_n 2, 1) := by decide +kernel
theorem kd_M_reckons_290 : decode b_M_reckons 290 = .ok (.lload 11, 2) := by decide +kernel
theorem kd_M_reckons_292 : decode b_M_reckons 292 = .ok (.invokevirtual 167, 3) := by decide +kernel
theorem kd_M_reckons_295 : decode b_M_reckons 295 = .ok (.iload_n 1, 1) := by decide +kernel
theorem kd_M_reckons_296 : decode b_M_reckons 296 = .ok (.bipush 9, 2) := by decide +kernel
theorem kd_M_reckons_298 : decode b_M_reckons 298 = .ok (.if_icmp .eq 15, 3) := by decide +kernel
theorem kd_M_reckons_301 : decode b_M_reckons 301 = .ok (.iload_n 1, 1) := by decide +kernel
theorem kd_M_reckons_302 : decode b_M_reckons 302 = .ok (.bipush 10, 2) := by decide +kernel
theorem kd_M_reckons_304 : decode b_M_reckons 304 = .ok (.if_icmp .eq 9, 3) := by decide +kernel
theorem kd_M_reckons_307 : decode b_M_reckons 307 = .ok (.iload_n 1, 1) := by decide +kernel
theorem kd_M_reckons_308 : decode b_M_reckons 308 = .ok (.bipush 14, 2) := by decide +kernel
theorem kd_M_reckons_310 : decode b_M_reckons 310 = .ok (.if_icmp .le 27, 3) := by decide +kernel
theorem kd_M_reckons_313 : decode b_M_reckons 313 = .ok (.aload_n 0, 1) := by decide +kernel
theorem kd_M_reckons_314 : decode b_M_reckons 314 = .ok (.iload 4, 2) := by decide +kernel
theorem kd_M_reckons_316 : decode b_M_reckons 316 = .ok (.iload 5, 2) := by decide +kernel
theorem kd_M_reckons_318 : decode b_M_reckons 318 = .ok (.iload_n 2, 1) := by decide +kernel
theorem kd_M_reckons_319 : decode b_M_reckons 319 = .ok (.lload 11, 2) := by decide +kernel
theorem kd_M_reckons_321 : decode b_M_reckons 321 = .ok (.invokevirtual 196, 3) := by decide +kernel
theorem kd_M_reckons_324 : decode b_M_reckons 324 = .ok (.aload_n 0, 1) := by decide +kernel
theorem kd_M_reckons_325 : decode b_M_reckons 325 = .ok (.getfield 64, 3) := by decide +kernel
theorem kd_M_reckons_328 : decode b_M_reckons 328 = .ok (.ifCond .eq 9, 3) := by decide +kernel
theorem kd_M_reckons_331 : decode b_M_reckons 331 = .ok (.aload_n 0, 1) := by decide +kernel
theorem kd_M_reckons_332 : decode b_M_reckons 332 = .ok (.iload 10, 2) := by decide +kernel
theorem kd_M_reckons_334 : decode b_M_reckons 334 = .ok (.invokevirtual 215, 3) := by decide +kernel
theorem kd_M_reckons_337 : decode b_M_reckons 337 = .ok (.return_, 1) := by decide +kernel
noncomputable def f_M_reckons_44 (s0 : ZS) (l2 : Int32) (l4 : Int32) (l5 : Int32) (t0 : Int64) : Option (ZS) :=
  (f_M_put s0 l4 l5 l2 t0).bind fun s3 =>
  if (s3 0 15) = 0 then
    (f_M_tells s3 t0 l2).bind fun s4 =>
    some s4
  else
    some s3
noncomputable def f_M_reckons_33 (s0 : ZS) (l1 : Int32) (l2 : Int32) (l4 : Int32) (l5 : Int32) (l6 : Int64) : Option (ZS) :=
  if l1 = 1 then
    f_M_reckons_44 s0 l2 l4 l5 l6
  else
    f_M_reckons_44 s0 l2 l4 l5 0
noncomputable def f_M_reckons_313 (s0 : ZS) (l2 : Int32) (l4 : Int32) (l5 : Int32) (l10 : Int32) (l11 : Int64) : Option (ZS) :=
  (f_M_put s0 l4 l5 l2 l11).bind fun s8 =>
  if (s8 0 15) = 0 then
    some s8
  else
    (f_M_setStatus s8 l10).bind fun s9 =>
    some s9
noncomputable def f_M_reckons_295 (s0 : ZS) (l1 : Int32) (l2 : Int32) (l4 : Int32) (l5 : Int32) (l10 : Int32) (l11 : Int64) : Option (ZS) :=
  if l1 = 9 then
    f_M_reckons_313 s0 l2 l4 l5 l10 l11
  else
    if l1 = 10 then
      f_M_reckons_313 s0 l2 l4 l5 l10 l11
    else
      if l1 ≤ 14 then
        some s0
      else
        f_M_reckons_313 s0 l2 l4 l5 l10 l11
noncomputable def f_M_reckons_276 (s0 : ZS) (l1 : Int32) (l2 : Int32) (l3 : Int32) (l4 : Int32) (l5 : Int32) (l10 : Int32) (l11 : Int64) : Option (ZS) :=
  if 9 ≤ l1 then
    f_M_reckons_295 s0 l1 l2 l4 l5 l10 l11
  else
    if l1 = 5 then
      f_M_reckons_295 s0 l1 l2 l4 l5 l10 l11
    else
      (f_M_setD s0 l3 l2 l11).bind fun s10 =>
      f_M_reckons_295 s10 l1 l2 l4 l5 l10 l11
noncomputable def f_M_reckons_111 (s0 : ZS) (l1 : Int32) (l2 : Int32) (l3 : Int32) (l4 : Int32) (l5 : Int32) (l6 : Int64) (l8 : Int64) (l10 : Int32) : Option (ZS) :=
  (f_M_sum s0 l6 l8 l2).bind fun p7 =>
  f_M_reckons_276 p7.2 l1 l2 l3 l4 l5 l10 p7.1
noncomputable def f_M_reckons_151 (s0 : ZS) (l1 : Int32) (l2 : Int32) (l3 : Int32) (l4 : Int32) (l5 : Int32) (l10 : Int32) (t0 : Int32) (t1 : Int32) (t2 : Int64) (t3 : Int64) : Option (ZS) :=
  (f_M_difference s0 t3 t2 t1 t0).bind fun p11 =>
  f_M_reckons_276 p11.2 l1 l2 l3 l4 l5 l10 p11.1
noncomputable def f_M_reckons_135 (s0 : ZS) (l1 : Int32) (l2 : Int32) (l3 : Int32) (l4 : Int32) (l5 : Int32) (l6 : Int64) (l8 : Int64) (l10 : Int32) : Option (ZS) :=
  if l1 = 5 then
    f_M_reckons_151 s0 l1 l2 l3 l4 l5 l10 1 l2 l8 l6
  else
    f_M_reckons_151 s0 l1 l2 l3 l4 l5 l10 0 l2 l8 l6
noncomputable def f_M_reckons_267 (s0 : ZS) (l1 : Int32) (l2 : Int32) (l3 : Int32) (l4 : Int32) (l5 : Int32) (l10 : Int32) (t0 : Int64) : Option (ZS) :=
  (f_M_tells s0 t0 l2).bind fun s12 =>
  f_M_reckons_276 s12 l1 l2 l3 l4 l5 l10 t0
noncomputable def f_M_reckons_210 (s0 : ZS) (l1 : Int32) (l2 : Int32) (l3 : Int32) (l4 : Int32) (l5 : Int32) (l8 : Int64) (l10 : Int32) : Option (ZS) :=
  f_M_reckons_267 s0 l1 l2 l3 l4 l5 l10 l8
noncomputable def f_M_reckons (s0 : ZS) (x1 : Int32) (x2 : Int32) (x3 : Int32) (x4 : Int32) (x5 : Int32) : Option (ZS) :=
  (f_M_locate s0 x4 x5 x2).bind fun s1 =>
  if x3 < 0 ∨ 8 ≤ x3.toNatClampNeg then none else
  (f_M_cut s1 ((s1 2 x3.toNatClampNeg).toInt64) x2).bind fun p2 =>
  if x1 = 1 then
    f_M_reckons_33 p2.2 x1 x2 x4 x5 p2.1
  else
    if x1 = 13 then
      f_M_reckons_33 p2.2 x1 x2 x4 x5 p2.1
    else
      (f_M_operand p2.2 x4 x5 x2).bind fun p5 =>
      if (p5.2 0 15) = 0 then
        (f_M_packed p5.2 ).bind fun p6 =>
        if x1 = 3 then
          f_M_reckons_111 p6.2 x1 x2 x3 x4 x5 p2.1 p5.1 p6.1
        else
          if x1 = 9 then
            f_M_reckons_111 p6.2 x1 x2 x3 x4 x5 p2.1 p5.1 p6.1
          else
            if x1 = 4 then
              f_M_reckons_135 p6.2 x1 x2 x3 x4 x5 p2.1 p5.1 p6.1
            else
              if x1 = 5 then
                f_M_reckons_135 p6.2 x1 x2 x3 x4 x5 p2.1 p5.1 p6.1
              else
                if x1 = 10 then
                  (f_M_difference p6.2 p5.1 p2.1 x2 0).bind fun p15 =>
                  f_M_reckons_276 p15.2 x1 x2 x3 x4 x5 p6.1 p15.1
                else
                  if x1 = 15 then
                    (f_M_difference p6.2 0 p5.1 x2 0).bind fun p14 =>
                    f_M_reckons_276 p14.2 x1 x2 x3 x4 x5 p6.1 p14.1
                  else
                    if x1 = 0 then
                      f_M_reckons_210 p6.2 x1 x2 x3 x4 x5 p5.1 p6.1
                    else
                      if x1 = 14 then
                        f_M_reckons_210 p6.2 x1 x2 x3 x4 x5 p5.1 p6.1
                      else
                        if x1 = 6 then
                          f_M_reckons_267 p6.2 x1 x2 x3 x4 x5 p6.1 ((p2.1 &&& p5.1))
                        else
                          if x1 = 7 then
                            f_M_reckons_267 p6.2 x1 x2 x3 x4 x5 p6.1 ((p2.1 ||| p5.1))
                          else
                            if x1 = 8 then
                              f_M_reckons_267 p6.2 x1 x2 x3 x4 x5 p6.1 ((p2.1 ^^^ p5.1))
                            else
                              (f_M_cut p6.2 (p5.1 ^^^ ((-1))) x2).bind fun p13 =>
                              f_M_reckons_267 p13.2 x1 x2 x3 x4 x5 p6.1 p13.1
      else
        some p5.2
theorem j_M_reckons_44 {P : ZP} {E : ZE} {A : Nat → Prop} (X : ZX E (zmV P) A "FrameMachineModel" b_M_reckons 13 none 5 121) (s0 : ZS) (l2 : Int32) (l4 : Int32) (l5 : Int32) (t0 : Int64) : ZJ E (zmV P) A 13 (zFv E (zmV P) A) 44 [(0, .ref (P.1 0)), (2, .int l2), (4, .int l4), (5, .int l5)] [.long t0] s0 (f_M_reckons_44 s0 l2 l4 l5 t0) := by
  unfold f_M_reckons_44
  refine zj_lstore 46 [(8, .long t0), (0, .ref (P.1 0)), (2, .int l2), (4, .int l4), (5, .int l5)] X kd_M_reckons_44 (Nat.le_of_ble_eq_true rfl) rfl rfl ?_
  refine zj_aload_n 47 1 X kd_M_reckons_46 rfl rfl rfl ?_
  refine zj_iload 49 3 X kd_M_reckons_47 rfl rfl ?_
  refine zj_iload 51 4 X kd_M_reckons_49 rfl rfl ?_
  refine zj_iload_n 52 2 X kd_M_reckons_51 rfl rfl rfl ?_
  refine zj_lload 54 0 X kd_M_reckons_52 rfl rfl ?_
  refine mc_M_196 57 X kd_M_reckons_54 (Nat.le_of_ble_eq_true rfl) (Nat.le_of_ble_eq_true rfl) (Nat.le_of_ble_eq_true rfl) rfl (fun s3 => ?_)
  refine zj_aload_n 58 1 X kd_M_reckons_57 rfl rfl rfl ?_
  refine gf_M_64 61 X kd_M_reckons_58 rfl ?_
  refine zj_if_ne 71 64 X kd_M_reckons_61 rfl rfl (fun _ => ?_) (fun _ => ?_)
  · refine zj_aload_n 65 1 X kd_M_reckons_64 rfl rfl rfl ?_
    refine zj_lload 67 0 X kd_M_reckons_65 rfl rfl ?_
    refine zj_iload_n 68 2 X kd_M_reckons_67 rfl rfl rfl ?_
    refine mc_M_170 71 X kd_M_reckons_68 (Nat.le_of_ble_eq_true rfl) (Nat.le_of_ble_eq_true rfl) (Nat.le_of_ble_eq_true rfl) rfl (fun s4 => ?_)
    exact zj_vret X kd_M_reckons_71
  · exact zj_vret X kd_M_reckons_71
theorem j_M_reckons_33 {P : ZP} {E : ZE} {A : Nat → Prop} (X : ZX E (zmV P) A "FrameMachineModel" b_M_reckons 13 none 5 121) (s0 : ZS) (l1 : Int32) (l2 : Int32) (l4 : Int32) (l5 : Int32) (l6 : Int64) : ZJ E (zmV P) A 13 (zFv E (zmV P) A) 33 [(0, .ref (P.1 0)), (1, .int l1), (2, .int l2), (4, .int l4), (5, .int l5), (6, .long l6)] [] s0 (f_M_reckons_33 s0 l1 l2 l4 l5 l6) := by
  unfold f_M_reckons_33
  refine zj_iload_n 34 1 X kd_M_reckons_33 rfl rfl rfl ?_
  refine zj_iconst 35 1 X kd_M_reckons_34 ki_1 rfl ?_
  refine zj_icmp_ne 43 38 X kd_M_reckons_35 rfl rfl (fun _ => ?_) (fun _ => ?_)
  · refine zj_lload 40 5 X kd_M_reckons_38 rfl rfl ?_
    refine zj_goto 44 X kd_M_reckons_40 rfl ?_
    refine zj_loc [0, 2, 3, 4] (L2 := [(0, .ref (P.1 0)), (2, .int l2), (4, .int l4), (5, .int l5)]) rfl ?_
    exact j_M_reckons_44 X s0 l2 l4 l5 l6
  · refine zj_lconst 44 0 X kd_M_reckons_43 rfl rfl ?_
    refine zj_loc [0, 2, 3, 4] (L2 := [(0, .ref (P.1 0)), (2, .int l2), (4, .int l4), (5, .int l5)]) rfl ?_
    exact j_M_reckons_44 X s0 l2 l4 l5 0
theorem j_M_reckons_313 {P : ZP} {E : ZE} {A : Nat → Prop} (X : ZX E (zmV P) A "FrameMachineModel" b_M_reckons 13 none 5 121) (s0 : ZS) (l2 : Int32) (l4 : Int32) (l5 : Int32) (l10 : Int32) (l11 : Int64) : ZJ E (zmV P) A 13 (zFv E (zmV P) A) 313 [(0, .ref (P.1 0)), (2, .int l2), (4, .int l4), (5, .int l5), (10, .int l10), (11, .long l11)] [] s0 (f_M_reckons_313 s0 l2 l4 l5 l10 l11) := by
  unfold f_M_reckons_313
  refine zj_aload_n 314 0 X kd_M_reckons_313 rfl rfl rfl ?_
  refine zj_iload 316 2 X kd_M_reckons_314 rfl rfl ?_
  refine zj_iload 318 3 X kd_M_reckons_316 rfl rfl ?_
  refine zj_iload_n 319 1 X kd_M_reckons_318 rfl rfl rfl ?_
  refine zj_lload 321 5 X kd_M_reckons_319 rfl rfl ?_
  refine mc_M_196 324 X kd_M_reckons_321 (Nat.le_of_ble_eq_true rfl) (Nat.le_of_ble_eq_true rfl) (Nat.le_of_ble_eq_true rfl) rfl (fun s8 => ?_)
  refine zj_aload_n 325 0 X kd_M_reckons_324 rfl rfl rfl ?_
  refine gf_M_64 328 X kd_M_reckons_325 rfl ?_
  refine zj_if_eq 337 331 X kd_M_reckons_328 rfl rfl (fun _ => ?_) (fun _ => ?_)
  · exact zj_vret X kd_M_reckons_337
  · refine zj_aload_n 332 0 X kd_M_reckons_331 rfl rfl rfl ?_
    refine zj_iload 334 4 X kd_M_reckons_332 rfl rfl ?_
    refine mc_M_215 337 X kd_M_reckons_334 (Nat.le_of_ble_eq_true rfl) (Nat.le_of_ble_eq_true rfl) (Nat.le_of_ble_eq_true rfl) rfl (fun s9 => ?_)
    exact zj_vret X kd_M_reckons_337
theorem j_M_reckons_295 {P : ZP} {E : ZE} {A : Nat → Prop} (X : ZX E (zmV P) A "FrameMachineModel" b_M_reckons 13 none 5 121) (s0 : ZS) (l1 : Int32) (l2 : Int32) (l4 : Int32) (l5 : Int32) (l10 : Int32) (l11 : Int64) : ZJ E (zmV P) A 13 (zFv E (zmV P) A) 295 [(0, .ref (P.1 0)), (1, .int l1), (2, .int l2), (4, .int l4), (5, .int l5), (10, .int l10), (11, .long l11)] [] s0 (f_M_reckons_295 s0 l1 l2 l4 l5 l10 l11) := by
  unfold f_M_reckons_295
  refine zj_iload_n 296 1 X kd_M_reckons_295 rfl rfl rfl ?_
  refine zj_bipush 298 9 X kd_M_reckons_296 kb_9 rfl ?_
  refine zj_icmp_eq 313 301 X kd_M_reckons_298 rfl rfl (fun _ => ?_) (fun _ => ?_)
  · refine zj_loc [0, 2, 3, 4, 5, 6] (L2 := [(0, .ref (P.1 0)), (2, .int l2), (4, .int l4), (5, .int l5), (10, .int l10), (11, .long l11)]) rfl ?_
    exact j_M_reckons_313 X s0 l2 l4 l5 l10 l11
  · refine zj_iload_n 302 1 X kd_M_reckons_301 rfl rfl rfl ?_
    refine zj_bipush 304 10 X kd_M_reckons_302 kb_10 rfl ?_
    refine zj_icmp_eq 313 307 X kd_M_reckons_304 rfl rfl (fun _ => ?_) (fun _ => ?_)
    · refine zj_loc [0, 2, 3, 4, 5, 6] (L2 := [(0, .ref (P.1 0)), (2, .int l2), (4, .int l4), (5, .int l5), (10, .int l10), (11, .long l11)]) rfl ?_
      exact j_M_reckons_313 X s0 l2 l4 l5 l10 l11
    · refine zj_iload_n 308 1 X kd_M_reckons_307 rfl rfl rfl ?_
      refine zj_bipush 310 14 X kd_M_reckons_308 kb_14 rfl ?_
      refine zj_icmp_le 337 313 X kd_M_reckons_310 rfl rfl (fun _ => ?_) (fun _ => ?_)
      · exact zj_vret X kd_M_reckons_337
      · refine zj_loc [0, 2, 3, 4, 5, 6] (L2 := [(0, .ref (P.1 0)), (2, .int l2), (4, .int l4), (5, .int l5), (10, .int l10), (11, .long l11)]) rfl ?_
        exact j_M_reckons_313 X s0 l2 l4 l5 l10 l11
theorem j_M_reckons_276 {P : ZP} {E : ZE} {A : Nat → Prop} (X : ZX E (zmV P) A "FrameMachineModel" b_M_reckons 13 none 5 121) (s0 : ZS) (l1 : Int32) (l2 : Int32) (l3 : Int32) (l4 : Int32) (l5 : Int32) (l10 : Int32) (l11 : Int64) : ZJ E (zmV P) A 13 (zFv E (zmV P) A) 276 [(0, .ref (P.1 0)), (1, .int l1), (2, .int l2), (3, .int l3), (4, .int l4), (5, .int l5), (10, .int l10), (11, .long l11)] [] s0 (f_M_reckons_276 s0 l1 l2 l3 l4 l5 l10 l11) := by
  unfold f_M_reckons_276
  refine zj_iload_n 277 1 X kd_M_reckons_276 rfl rfl rfl ?_
  refine zj_bipush 279 9 X kd_M_reckons_277 kb_9 rfl ?_
  refine zj_icmp_ge 295 282 X kd_M_reckons_279 rfl rfl (fun _ => ?_) (fun _ => ?_)
  · refine zj_loc [0, 1, 2, 4, 5, 6, 7] (L2 := [(0, .ref (P.1 0)), (1, .int l1), (2, .int l2), (4, .int l4), (5, .int l5), (10, .int l10), (11, .long l11)]) rfl ?_
    exact j_M_reckons_295 X s0 l1 l2 l4 l5 l10 l11
  · refine zj_iload_n 283 1 X kd_M_reckons_282 rfl rfl rfl ?_
    refine zj_iconst 284 5 X kd_M_reckons_283 ki_5 rfl ?_
    refine zj_icmp_eq 295 287 X kd_M_reckons_284 rfl rfl (fun _ => ?_) (fun _ => ?_)
    · refine zj_loc [0, 1, 2, 4, 5, 6, 7] (L2 := [(0, .ref (P.1 0)), (1, .int l1), (2, .int l2), (4, .int l4), (5, .int l5), (10, .int l10), (11, .long l11)]) rfl ?_
      exact j_M_reckons_295 X s0 l1 l2 l4 l5 l10 l11
    · refine zj_aload_n 288 0 X kd_M_reckons_287 rfl rfl rfl ?_
      refine zj_iload_n 289 3 X kd_M_reckons_288 rfl rfl rfl ?_
      refine zj_iload_n 290 2 X kd_M_reckons_289 rfl rfl rfl ?_
      refine zj_lload 292 7 X kd_M_reckons_290 rfl rfl ?_
      refine mc_M_167 295 X kd_M_reckons_292 (Nat.le_of_ble_eq_true rfl) (Nat.le_of_ble_eq_true rfl) (Nat.le_of_ble_eq_true rfl) rfl (fun s10 => ?_)
      refine zj_loc [0, 1, 2, 4, 5, 6, 7] (L2 := [(0, .ref (P.1 0)), (1, .int l1), (2, .int l2), (4, .int l4), (5, .int l5), (10, .int l10), (11, .long l11)]) rfl ?_
      exact j_M_reckons_295 X s10 l1 l2 l4 l5 l10 l11
theorem j_M_reckons_111 {P : ZP} {E : ZE} {A : Nat → Prop} (X : ZX E (zmV P) A "FrameMachineModel" b_M_reckons 13 none 5 121) (s0 : ZS) (l1 : Int32) (l2 : Int32) (l3 : Int32) (l4 : Int32) (l5 : Int32) (l6 : Int64) (l8 : Int64) (l10 : Int32) : ZJ E (zmV P) A 13 (zFv E (zmV P) A) 111 [(0, .ref (P.1 0)), (1, .int l1), (2, .int l2), (3, .int l3), (4, .int l4), (5, .int l5), (6, .long l6), (8, .long l8), (10, .int l10)] [] s0 (f_M_reckons_111 s0 l1 l2 l3 l4 l5 l6 l8 l10) := by
  unfold f_M_reckons_111
  refine zj_aload_n 112 0 X kd_M_reckons_111 rfl rfl rfl ?_
  refine zj_lload 114 6 X kd_M_reckons_112 rfl rfl ?_
  refine zj_lload 116 7 X kd_M_reckons_114 rfl rfl ?_
  refine zj_iload_n 117 2 X kd_M_reckons_116 rfl rfl rfl ?_
  refine mc_M_207 120 X kd_M_reckons_117 (Nat.le_of_ble_eq_true rfl) (Nat.le_of_ble_eq_true rfl) (Nat.le_of_ble_eq_true rfl) rfl (fun p7 => ?_)
  refine zj_lstore 122 [(11, .long p7.1), (0, .ref (P.1 0)), (1, .int l1), (2, .int l2), (3, .int l3), (4, .int l4), (5, .int l5), (6, .long l6), (8, .long l8), (10, .int l10)] X kd_M_reckons_120 (Nat.le_of_ble_eq_true rfl) rfl rfl ?_
  refine zj_goto 276 X kd_M_reckons_122 rfl ?_
  refine zj_loc [1, 2, 3, 4, 5, 6, 9, 0] (L2 := [(0, .ref (P.1 0)), (1, .int l1), (2, .int l2), (3, .int l3), (4, .int l4), (5, .int l5), (10, .int l10), (11, .long p7.1)]) rfl ?_
  exact j_M_reckons_276 X p7.2 l1 l2 l3 l4 l5 l10 p7.1
theorem j_M_reckons_151 {P : ZP} {E : ZE} {A : Nat → Prop} (X : ZX E (zmV P) A "FrameMachineModel" b_M_reckons 13 none 5 121) (s0 : ZS) (l1 : Int32) (l2 : Int32) (l3 : Int32) (l4 : Int32) (l5 : Int32) (l10 : Int32) (t0 : Int32) (t1 : Int32) (t2 : Int64) (t3 : Int64) : ZJ E (zmV P) A 13 (zFv E (zmV P) A) 151 [(0, .ref (P.1 0)), (1, .int l1), (2, .int l2), (3, .int l3), (4, .int l4), (5, .int l5), (10, .int l10)] [.int t0, .int t1, .long t2, .long t3, .ref (P.1 0)] s0 (f_M_reckons_151 s0 l1 l2 l3 l4 l5 l10 t0 t1 t2 t3) := by
  unfold f_M_reckons_151
  refine mc_M_211 154 X kd_M_reckons_151 (Nat.le_of_ble_eq_true rfl) (Nat.le_of_ble_eq_true rfl) (Nat.le_of_ble_eq_true rfl) rfl (fun p11 => ?_)
  refine zj_lstore 156 [(11, .long p11.1), (0, .ref (P.1 0)), (1, .int l1), (2, .int l2), (3, .int l3), (4, .int l4), (5, .int l5), (10, .int l10)] X kd_M_reckons_154 (Nat.le_of_ble_eq_true rfl) rfl rfl ?_
  refine zj_goto 276 X kd_M_reckons_156 rfl ?_
  refine zj_loc [1, 2, 3, 4, 5, 6, 7, 0] (L2 := [(0, .ref (P.1 0)), (1, .int l1), (2, .int l2), (3, .int l3), (4, .int l4), (5, .int l5), (10, .int l10), (11, .long p11.1)]) rfl ?_
  exact j_M_reckons_276 X p11.2 l1 l2 l3 l4 l5 l10 p11.1
theorem j_M_reckons_135 {P : ZP} {E : ZE} {A : Nat → Prop} (X : ZX E (zmV P) A "FrameMachineModel" b_M_reckons 13 none 5 121) (s0 : ZS) (l1 : Int32) (l2 : Int32) (l3 : Int32) (l4 : Int32) (l5 : Int32) (l6 : Int64) (l8 : Int64) (l10 : Int32) : ZJ E (zmV P) A 13 (zFv E (zmV P) A) 135 [(0, .ref (P.1 0)), (1, .int l1), (2, .int l2), (3, .int l3), (4, .int l4), (5, .int l5), (6, .long l6), (8, .long l8), (10, .int l10)] [] s0 (f_M_reckons_135 s0 l1 l2 l3 l4 l5 l6 l8 l10) := by
  unfold f_M_reckons_135
  refine zj_aload_n 136 0 X kd_M_reckons_135 rfl rfl rfl ?_
  refine zj_lload 138 6 X kd_M_reckons_136 rfl rfl ?_
  refine zj_lload 140 7 X kd_M_reckons_138 rfl rfl ?_
  refine zj_iload_n 141 2 X kd_M_reckons_140 rfl rfl rfl ?_
  refine zj_iload_n 142 1 X kd_M_reckons_141 rfl rfl rfl ?_
  refine zj_iconst 143 5 X kd_M_reckons_142 ki_5 rfl ?_
  refine zj_icmp_ne 150 146 X kd_M_reckons_143 rfl rfl (fun _ => ?_) (fun _ => ?_)
  · refine zj_iconst 147 1 X kd_M_reckons_146 ki_1 rfl ?_
    refine zj_goto 151 X kd_M_reckons_147 rfl ?_
    refine zj_loc [0, 1, 2, 3, 4, 5, 8] (L2 := [(0, .ref (P.1 0)), (1, .int l1), (2, .int l2), (3, .int l3), (4, .int l4), (5, .int l5), (10, .int l10)]) rfl ?_
    exact j_M_reckons_151 X s0 l1 l2 l3 l4 l5 l10 1 l2 l8 l6
  · refine zj_iconst 151 0 X kd_M_reckons_150 ki_0 rfl ?_
    refine zj_loc [0, 1, 2, 3, 4, 5, 8] (L2 := [(0, .ref (P.1 0)), (1, .int l1), (2, .int l2), (3, .int l3), (4, .int l4), (5, .int l5), (10, .int l10)]) rfl ?_
    exact j_M_reckons_151 X s0 l1 l2 l3 l4 l5 l10 0 l2 l8 l6
theorem j_M_reckons_267 {P : ZP} {E : ZE} {A : Nat → Prop} (X : ZX E (zmV P) A "FrameMachineModel" b_M_reckons 13 none 5 121) (s0 : ZS) (l1 : Int32) (l2 : Int32) (l3 : Int32) (l4 : Int32) (l5 : Int32) (l10 : Int32) (t0 : Int64) : ZJ E (zmV P) A 13 (zFv E (zmV P) A) 267 [(0, .ref (P.1 0)), (1, .int l1), (2, .int l2), (3, .int l3), (4, .int l4), (5, .int l5), (10, .int l10)] [.long t0] s0 (f_M_reckons_267 s0 l1 l2 l3 l4 l5 l10 t0) := by
  unfold f_M_reckons_267
  refine zj_lstore 269 [(11, .long t0), (0, .ref (P.1 0)), (1, .int l1), (2, .int l2), (3, .int l3), (4, .int l4), (5, .int l5), (10, .int l10)] X kd_M_reckons_267 (Nat.le_of_ble_eq_true rfl) rfl rfl ?_
  refine zj_aload_n 270 1 X kd_M_reckons_269 rfl rfl rfl ?_
  refine zj_lload 272 0 X kd_M_reckons_270 rfl rfl ?_
  refine zj_iload_n 273 3 X kd_M_reckons_272 rfl rfl rfl ?_
  refine mc_M_170 276 X kd_M_reckons_273 (Nat.le_of_ble_eq_true rfl) (Nat.le_of_ble_eq_true rfl) (Nat.le_of_ble_eq_true rfl) rfl (fun s12 => ?_)
  refine zj_loc [1, 2, 3, 4, 5, 6, 7, 0] (L2 := [(0, .ref (P.1 0)), (1, .int l1), (2, .int l2), (3, .int l3), (4, .int l4), (5, .int l5), (10, .int l10), (11, .long t0)]) rfl ?_
  exact j_M_reckons_276 X s12 l1 l2 l3 l4 l5 l10 t0
theorem j_M_reckons_210 {P : ZP} {E : ZE} {A : Nat → Prop} (X : ZX E (zmV P) A "FrameMachineModel" b_M_reckons 13 none 5 121) (s0 : ZS) (l1 : Int32) (l2 : Int32) (l3 : Int32) (l4 : Int32) (l5 : Int32) (l8 : Int64) (l10 : Int32) : ZJ E (zmV P) A 13 (zFv E (zmV P) A) 210 [(0, .ref (P.1 0)), (1, .int l1), (2, .int l2), (3, .int l3), (4, .int l4), (5, .int l5), (8, .long l8), (10, .int l10)] [] s0 (f_M_reckons_210 s0 l1 l2 l3 l4 l5 l8 l10) := by
  unfold f_M_reckons_210
  refine zj_lload 212 6 X kd_M_reckons_210 rfl rfl ?_
  refine zj_goto 267 X kd_M_reckons_212 rfl ?_
  refine zj_loc [0, 1, 2, 3, 4, 5, 7] (L2 := [(0, .ref (P.1 0)), (1, .int l1), (2, .int l2), (3, .int l3), (4, .int l4), (5, .int l5), (10, .int l10)]) rfl ?_
  exact j_M_reckons_267 X s0 l1 l2 l3 l4 l5 l10 l8
theorem j_M_reckons {P : ZP} {E : ZE} {A : Nat → Prop} (X : ZX E (zmV P) A "FrameMachineModel" b_M_reckons 13 none 5 121) (s0 : ZS) (x1 : Int32) (x2 : Int32) (x3 : Int32) (x4 : Int32) (x5 : Int32) : ZJ E (zmV P) A 13 (zFv E (zmV P) A) 0 [(0, .ref (P.1 0)), (1, .int x1), (2, .int x2), (3, .int x3), (4, .int x4), (5, .int x5)] [] s0 (f_M_reckons s0 x1 x2 x3 x4 x5) := by
  unfold f_M_reckons
  refine zj_aload_n 1 0 X kd_M_reckons_0 rfl rfl rfl ?_
  refine zj_iload 3 4 X kd_M_reckons_1 rfl rfl ?_
  refine zj_iload 5 5 X kd_M_reckons_3 rfl rfl ?_
  refine zj_iload_n 6 2 X kd_M_reckons_5 rfl rfl rfl ?_
  refine mc_M_192 9 X kd_M_reckons_6 (Nat.le_of_ble_eq_true rfl) (Nat.le_of_ble_eq_true rfl) (Nat.le_of_ble_eq_true rfl) rfl (fun s1 => ?_)
  refine zj_aload_n 10 0 X kd_M_reckons_9 rfl rfl rfl ?_
  refine gf_M_13 13 X kd_M_reckons_10 rfl ?_
  refine zj_iload_n 14 3 X kd_M_reckons_13 rfl rfl rfl ?_
  refine zj_ng (fun hg => ?_)
  refine al_M_2 15 X kd_M_reckons_14 hg rfl ?_
  refine zj_i2l 16 X kd_M_reckons_15 rfl ?_
  refine zj_iload_n 17 2 X kd_M_reckons_16 rfl rfl rfl ?_
  refine mc_M_161 20 X kd_M_reckons_17 (Nat.le_of_ble_eq_true rfl) (Nat.le_of_ble_eq_true rfl) (Nat.le_of_ble_eq_true rfl) rfl (fun p2 => ?_)
  refine zj_lstore 22 [(6, .long p2.1), (0, .ref (P.1 0)), (1, .int x1), (2, .int x2), (3, .int x3), (4, .int x4), (5, .int x5)] X kd_M_reckons_20 (Nat.le_of_ble_eq_true rfl) rfl rfl ?_
  refine zj_iload_n 23 2 X kd_M_reckons_22 rfl rfl rfl ?_
  refine zj_iconst 24 1 X kd_M_reckons_23 ki_1 rfl ?_
  refine zj_icmp_eq 33 27 X kd_M_reckons_24 rfl rfl (fun _ => ?_) (fun _ => ?_)
  · refine zj_loc [1, 2, 3, 5, 6, 0] (L2 := [(0, .ref (P.1 0)), (1, .int x1), (2, .int x2), (4, .int x4), (5, .int x5), (6, .long p2.1)]) rfl ?_
    exact j_M_reckons_33 X p2.2 x1 x2 x4 x5 p2.1
  · refine zj_iload_n 28 2 X kd_M_reckons_27 rfl rfl rfl ?_
    refine zj_bipush 30 13 X kd_M_reckons_28 kb_13 rfl ?_
    refine zj_icmp_ne 72 33 X kd_M_reckons_30 rfl rfl (fun _ => ?_) (fun _ => ?_)
    · refine zj_loc [1, 2, 3, 5, 6, 0] (L2 := [(0, .ref (P.1 0)), (1, .int x1), (2, .int x2), (4, .int x4), (5, .int x5), (6, .long p2.1)]) rfl ?_
      exact j_M_reckons_33 X p2.2 x1 x2 x4 x5 p2.1
    · refine zj_aload_n 73 1 X kd_M_reckons_72 rfl rfl rfl ?_
      refine zj_iload 75 5 X kd_M_reckons_73 rfl rfl ?_
      refine zj_iload 77 6 X kd_M_reckons_75 rfl rfl ?_
      refine zj_iload_n 78 3 X kd_M_reckons_77 rfl rfl rfl ?_
      refine mc_M_200 81 X kd_M_reckons_78 (Nat.le_of_ble_eq_true rfl) (Nat.le_of_ble_eq_true rfl) (Nat.le_of_ble_eq_true rfl) rfl (fun p5 => ?_)
      refine zj_lstore 83 [(8, .long p5.1), (6, .long p2.1), (0, .ref (P.1 0)), (1, .int x1), (2, .int x2), (3, .int x3), (4, .int x4), (5, .int x5)] X kd_M_reckons_81 (Nat.le_of_ble_eq_true rfl) rfl rfl ?_
      refine zj_aload_n 84 2 X kd_M_reckons_83 rfl rfl rfl ?_
      refine gf_M_64 87 X kd_M_reckons_84 rfl ?_
      refine zj_if_eq 91 90 X kd_M_reckons_87 rfl rfl (fun _ => ?_) (fun _ => ?_)
      · refine zj_aload_n 92 2 X kd_M_reckons_91 rfl rfl rfl ?_
        refine mc_M_204 95 X kd_M_reckons_92 (Nat.le_of_ble_eq_true rfl) (Nat.le_of_ble_eq_true rfl) (Nat.le_of_ble_eq_true rfl) rfl (fun p6 => ?_)
        refine zj_istore 97 [(10, .int p6.1), (8, .long p5.1), (6, .long p2.1), (0, .ref (P.1 0)), (1, .int x1), (2, .int x2), (3, .int x3), (4, .int x4), (5, .int x5)] X kd_M_reckons_95 (Nat.le_of_ble_eq_true rfl) rfl rfl ?_
        refine zj_lconst 98 0 X kd_M_reckons_97 rfl rfl ?_
        refine zj_lstore 100 [(11, .long 0), (10, .int p6.1), (8, .long p5.1), (6, .long p2.1), (0, .ref (P.1 0)), (1, .int x1), (2, .int x2), (3, .int x3), (4, .int x4), (5, .int x5)] X kd_M_reckons_98 (Nat.le_of_ble_eq_true rfl) rfl rfl ?_
        refine zj_iload_n 101 5 X kd_M_reckons_100 rfl rfl rfl ?_
        refine zj_iconst 102 3 X kd_M_reckons_101 ki_3 rfl ?_
        refine zj_icmp_eq 111 105 X kd_M_reckons_102 rfl rfl (fun _ => ?_) (fun _ => ?_)
        · refine zj_loc [4, 5, 6, 7, 8, 9, 3, 2, 1] (L2 := [(0, .ref (P.1 0)), (1, .int x1), (2, .int x2), (3, .int x3), (4, .int x4), (5, .int x5), (6, .long p2.1), (8, .long p5.1), (10, .int p6.1)]) rfl ?_
          exact j_M_reckons_111 X p6.2 x1 x2 x3 x4 x5 p2.1 p5.1 p6.1
        · refine zj_iload_n 106 5 X kd_M_reckons_105 rfl rfl rfl ?_
          refine zj_bipush 108 9 X kd_M_reckons_106 kb_9 rfl ?_
          refine zj_icmp_ne 125 111 X kd_M_reckons_108 rfl rfl (fun _ => ?_) (fun _ => ?_)
          · refine zj_loc [4, 5, 6, 7, 8, 9, 3, 2, 1] (L2 := [(0, .ref (P.1 0)), (1, .int x1), (2, .int x2), (3, .int x3), (4, .int x4), (5, .int x5), (6, .long p2.1), (8, .long p5.1), (10, .int p6.1)]) rfl ?_
            exact j_M_reckons_111 X p6.2 x1 x2 x3 x4 x5 p2.1 p5.1 p6.1
          · refine zj_iload_n 126 5 X kd_M_reckons_125 rfl rfl rfl ?_
            refine zj_iconst 127 4 X kd_M_reckons_126 ki_4 rfl ?_
            refine zj_icmp_eq 135 130 X kd_M_reckons_127 rfl rfl (fun _ => ?_) (fun _ => ?_)
            · refine zj_loc [4, 5, 6, 7, 8, 9, 3, 2, 1] (L2 := [(0, .ref (P.1 0)), (1, .int x1), (2, .int x2), (3, .int x3), (4, .int x4), (5, .int x5), (6, .long p2.1), (8, .long p5.1), (10, .int p6.1)]) rfl ?_
              exact j_M_reckons_135 X p6.2 x1 x2 x3 x4 x5 p2.1 p5.1 p6.1
            · refine zj_iload_n 131 5 X kd_M_reckons_130 rfl rfl rfl ?_
              refine zj_iconst 132 5 X kd_M_reckons_131 ki_5 rfl ?_
              refine zj_icmp_ne 159 135 X kd_M_reckons_132 rfl rfl (fun _ => ?_) (fun _ => ?_)
              · refine zj_loc [4, 5, 6, 7, 8, 9, 3, 2, 1] (L2 := [(0, .ref (P.1 0)), (1, .int x1), (2, .int x2), (3, .int x3), (4, .int x4), (5, .int x5), (6, .long p2.1), (8, .long p5.1), (10, .int p6.1)]) rfl ?_
                exact j_M_reckons_135 X p6.2 x1 x2 x3 x4 x5 p2.1 p5.1 p6.1
              · refine zj_iload_n 160 5 X kd_M_reckons_159 rfl rfl rfl ?_
                refine zj_bipush 162 10 X kd_M_reckons_160 kb_10 rfl ?_
                refine zj_icmp_ne 180 165 X kd_M_reckons_162 rfl rfl (fun _ => ?_) (fun _ => ?_)
                · refine zj_aload_n 166 4 X kd_M_reckons_165 rfl rfl rfl ?_
                  refine zj_lload 168 2 X kd_M_reckons_166 rfl rfl ?_
                  refine zj_lload 170 3 X kd_M_reckons_168 rfl rfl ?_
                  refine zj_iload_n 171 6 X kd_M_reckons_170 rfl rfl rfl ?_
                  refine zj_iconst 172 0 X kd_M_reckons_171 ki_0 rfl ?_
                  refine mc_M_211 175 X kd_M_reckons_172 (Nat.le_of_ble_eq_true rfl) (Nat.le_of_ble_eq_true rfl) (Nat.le_of_ble_eq_true rfl) rfl (fun p15 => ?_)
                  refine zj_lstore 177 [(11, .long p15.1), (10, .int p6.1), (8, .long p5.1), (6, .long p2.1), (0, .ref (P.1 0)), (1, .int x1), (2, .int x2), (3, .int x3), (4, .int x4), (5, .int x5)] X kd_M_reckons_175 (Nat.le_of_ble_eq_true rfl) rfl rfl ?_
                  refine zj_goto 276 X kd_M_reckons_177 rfl ?_
                  refine zj_loc [4, 5, 6, 7, 8, 9, 1, 0] (L2 := [(0, .ref (P.1 0)), (1, .int x1), (2, .int x2), (3, .int x3), (4, .int x4), (5, .int x5), (10, .int p6.1), (11, .long p15.1)]) rfl ?_
                  exact j_M_reckons_276 X p15.2 x1 x2 x3 x4 x5 p6.1 p15.1
                · refine zj_iload_n 181 5 X kd_M_reckons_180 rfl rfl rfl ?_
                  refine zj_bipush 183 15 X kd_M_reckons_181 kb_15 rfl ?_
                  refine zj_icmp_ne 200 186 X kd_M_reckons_183 rfl rfl (fun _ => ?_) (fun _ => ?_)
                  · refine zj_aload_n 187 4 X kd_M_reckons_186 rfl rfl rfl ?_
                    refine zj_lconst 188 0 X kd_M_reckons_187 rfl rfl ?_
                    refine zj_lload 190 2 X kd_M_reckons_188 rfl rfl ?_
                    refine zj_iload_n 191 6 X kd_M_reckons_190 rfl rfl rfl ?_
                    refine zj_iconst 192 0 X kd_M_reckons_191 ki_0 rfl ?_
                    refine mc_M_211 195 X kd_M_reckons_192 (Nat.le_of_ble_eq_true rfl) (Nat.le_of_ble_eq_true rfl) (Nat.le_of_ble_eq_true rfl) rfl (fun p14 => ?_)
                    refine zj_lstore 197 [(11, .long p14.1), (10, .int p6.1), (8, .long p5.1), (6, .long p2.1), (0, .ref (P.1 0)), (1, .int x1), (2, .int x2), (3, .int x3), (4, .int x4), (5, .int x5)] X kd_M_reckons_195 (Nat.le_of_ble_eq_true rfl) rfl rfl ?_
                    refine zj_goto 276 X kd_M_reckons_197 rfl ?_
                    refine zj_loc [4, 5, 6, 7, 8, 9, 1, 0] (L2 := [(0, .ref (P.1 0)), (1, .int x1), (2, .int x2), (3, .int x3), (4, .int x4), (5, .int x5), (10, .int p6.1), (11, .long p14.1)]) rfl ?_
                    exact j_M_reckons_276 X p14.2 x1 x2 x3 x4 x5 p6.1 p14.1
                  · refine zj_iload_n 201 5 X kd_M_reckons_200 rfl rfl rfl ?_
                    refine zj_if_eq 210 204 X kd_M_reckons_201 rfl rfl (fun _ => ?_) (fun _ => ?_)
                    · refine zj_loc [4, 5, 6, 7, 8, 9, 2, 1] (L2 := [(0, .ref (P.1 0)), (1, .int x1), (2, .int x2), (3, .int x3), (4, .int x4), (5, .int x5), (8, .long p5.1), (10, .int p6.1)]) rfl ?_
                      exact j_M_reckons_210 X p6.2 x1 x2 x3 x4 x5 p5.1 p6.1
                    · refine zj_iload_n 205 5 X kd_M_reckons_204 rfl rfl rfl ?_
                      refine zj_bipush 207 14 X kd_M_reckons_205 kb_14 rfl ?_
                      refine zj_icmp_ne 215 210 X kd_M_reckons_207 rfl rfl (fun _ => ?_) (fun _ => ?_)
                      · refine zj_loc [4, 5, 6, 7, 8, 9, 2, 1] (L2 := [(0, .ref (P.1 0)), (1, .int x1), (2, .int x2), (3, .int x3), (4, .int x4), (5, .int x5), (8, .long p5.1), (10, .int p6.1)]) rfl ?_
                        exact j_M_reckons_210 X p6.2 x1 x2 x3 x4 x5 p5.1 p6.1
                      · refine zj_iload_n 216 5 X kd_M_reckons_215 rfl rfl rfl ?_
                        refine zj_bipush 218 6 X kd_M_reckons_216 kb_6 rfl ?_
                        refine zj_icmp_ne 229 221 X kd_M_reckons_218 rfl rfl (fun _ => ?_) (fun _ => ?_)
                        · refine zj_lload 223 3 X kd_M_reckons_221 rfl rfl ?_
                          refine zj_lload 225 2 X kd_M_reckons_223 rfl rfl ?_
                          refine zj_land 226 X kd_M_reckons_225 rfl ?_
                          refine zj_goto 267 X kd_M_reckons_226 rfl ?_
                          refine zj_loc [4, 5, 6, 7, 8, 9, 1] (L2 := [(0, .ref (P.1 0)), (1, .int x1), (2, .int x2), (3, .int x3), (4, .int x4), (5, .int x5), (10, .int p6.1)]) rfl ?_
                          exact j_M_reckons_267 X p6.2 x1 x2 x3 x4 x5 p6.1 ((p2.1 &&& p5.1))
                        · refine zj_iload_n 230 5 X kd_M_reckons_229 rfl rfl rfl ?_
                          refine zj_bipush 232 7 X kd_M_reckons_230 kb_7 rfl ?_
                          refine zj_icmp_ne 243 235 X kd_M_reckons_232 rfl rfl (fun _ => ?_) (fun _ => ?_)
                          · refine zj_lload 237 3 X kd_M_reckons_235 rfl rfl ?_
                            refine zj_lload 239 2 X kd_M_reckons_237 rfl rfl ?_
                            refine zj_lor 240 X kd_M_reckons_239 rfl ?_
                            refine zj_goto 267 X kd_M_reckons_240 rfl ?_
                            refine zj_loc [4, 5, 6, 7, 8, 9, 1] (L2 := [(0, .ref (P.1 0)), (1, .int x1), (2, .int x2), (3, .int x3), (4, .int x4), (5, .int x5), (10, .int p6.1)]) rfl ?_
                            exact j_M_reckons_267 X p6.2 x1 x2 x3 x4 x5 p6.1 ((p2.1 ||| p5.1))
                          · refine zj_iload_n 244 5 X kd_M_reckons_243 rfl rfl rfl ?_
                            refine zj_bipush 246 8 X kd_M_reckons_244 kb_8 rfl ?_
                            refine zj_icmp_ne 257 249 X kd_M_reckons_246 rfl rfl (fun _ => ?_) (fun _ => ?_)
                            · refine zj_lload 251 3 X kd_M_reckons_249 rfl rfl ?_
                              refine zj_lload 253 2 X kd_M_reckons_251 rfl rfl ?_
                              refine zj_lxor 254 X kd_M_reckons_253 rfl ?_
                              refine zj_goto 267 X kd_M_reckons_254 rfl ?_
                              refine zj_loc [4, 5, 6, 7, 8, 9, 1] (L2 := [(0, .ref (P.1 0)), (1, .int x1), (2, .int x2), (3, .int x3), (4, .int x4), (5, .int x5), (10, .int p6.1)]) rfl ?_
                              exact j_M_reckons_267 X p6.2 x1 x2 x3 x4 x5 p6.1 ((p2.1 ^^^ p5.1))
                            · refine zj_lload 259 2 X kd_M_reckons_257 rfl rfl ?_
                              refine zj_ldc2 262 ((-1)) X kd_M_reckons_259 kw_997 rfl ?_
                              refine zj_lxor 263 X kd_M_reckons_262 rfl ?_
                              refine zj_iload_n 264 6 X kd_M_reckons_263 rfl rfl rfl ?_
                              refine mc_M_161 267 X kd_M_reckons_264 (Nat.le_of_ble_eq_true rfl) (Nat.le_of_ble_eq_true rfl) (Nat.le_of_ble_eq_true rfl) rfl (fun p13 => ?_)
                              refine zj_loc [4, 5, 6, 7, 8, 9, 1] (L2 := [(0, .ref (P.1 0)), (1, .int x1), (2, .int x2), (3, .int x3), (4, .int x4), (5, .int x5), (10, .int p6.1)]) rfl ?_
                              exact j_M_reckons_267 X p13.2 x1 x2 x3 x4 x5 p6.1 p13.1
      · exact zj_vret X kd_M_reckons_90
theorem c_M_reckons {l : Launch} {P : ZP} (hV : ZVok (zmV P)) (s0 : ZS) (x1 : Int32) (x2 : Int32) (x3 : Int32) (x4 : Int32) (x5 : Int32) {z : ZS} (h : f_M_reckons s0 x1 x2 x3 x4 x5 = some z) : zMv l y_M_reckons b_M_reckons 13 none 5 121 (zmV P) s0 [.ref (P.1 0), .int x1, .int x2, .int x3, .int x4, .int x5] z :=
  zMv_of (by decide +kernel) rfl rfl (Nat.le_of_ble_eq_true rfl) hV (fun _ X => j_M_reckons X s0 x1 x2 x3 x4 x5) h
theorem kc_M_253 : zCV "FrameMachineModel" 253 y_M_reckons b_M_reckons 13 none 5 := ⟨⟨kw_1052, kw_1054, ksel_58, kw_11, kw_1055⟩, by decide +kernel, by decide +kernel, by decide +kernel⟩
theorem mc_M_253 {ρ : Type} {E : ZE} {P : ZP} {A : Nat → Prop} {cc : ByteArray} {nL : Nat} {ret : Option FieldType} {fr lo : Nat} {F : ρ → State → Prop} {pc : Nat} {L : List (Nat × Value)} {rest : List Value} {σ : ZS} {x1 : Int32} {x2 : Int32} {x3 : Int32} {x4 : Int32} {x5 : Int32} {K : ZS → Option ρ} (q : Nat) (X : ZX E (zmV P) A "FrameMachineModel" cc nL ret fr lo) (d : decode cc pc = .ok (.invokevirtual 253, 3)) (hfr : 5 + 1 ≤ fr) (hlo : 8 + (13 + 11) + 121 ≤ lo) (hr : (rest.map fun v => v.category).sum ≤ 8) (hq : pc + 3 = q) (kk : ∀ p : ZS, ZJ E (zmV P) A nL F q L (rest) p (K p)) : ZJ E (zmV P) A nL F pc L (.int x5 :: .int x4 :: .int x3 :: .int x2 :: .int x1 :: .ref (P.1 0) :: rest) σ ((f_M_reckons σ x1 x2 x3 x4 x5).bind K) :=
  zj_cVv q 0 0 (As := [.int x1, .int x2, .int x3, .int x4, .int x5]) (rest := rest) X kc_M_253 hfr hlo (fun p h => c_M_reckons (zx_v X) σ x1 x2 x3 x4 x5 h) rfl rfl rfl hr d hq kk
