-- FrameMachineModel.does(IIIII)V
theorem kd_M_does_0 : decode b_M_does 0 = .ok (.iload_n 1, 1) := by decide +kernel
theorem kd_M_does_1 : decode b_M_does 1 = .ok (.bipush 17, 2) := by decide +kernel
theorem kd_M_does_3 : decode b_M_does 3 = .ok (.if_icmp .ne 16, 3) := by decide +kernel
theorem kd_M_does_6 : decode b_M_does 6 = .ok (.aload_n 0, 1) := by decide +kernel
theorem kd_M_does_7 : decode b_M_does 7 = .ok (.iload_n 2, 1) := by decide +kernel
theorem kd_M_does_8 : decode b_M_does 8 = .ok (.iload_n 3, 1) := by decide +kernel
theorem kd_M_does_9 : decode b_M_does 9 = .ok (.iload 4, 2) := by decide +kernel
theorem kd_M_does_11 : decode b_M_does 11 = .ok (.iload 5, 2) := by decide +kernel
theorem kd_M_does_13 : decode b_M_does 13 = .ok (.invokevirtual 239, 3) := by decide +kernel
theorem kd_M_does_16 : decode b_M_does 16 = .ok (.goto 156, 3) := by decide +kernel
theorem kd_M_does_19 : decode b_M_does 19 = .ok (.iload_n 1, 1) := by decide +kernel
theorem kd_M_does_20 : decode b_M_does 20 = .ok (.bipush 21, 2) := by decide +kernel
theorem kd_M_does_22 : decode b_M_does 22 = .ok (.if_icmp .ne 16, 3) := by decide +kernel
theorem kd_M_does_25 : decode b_M_does 25 = .ok (.aload_n 0, 1) := by decide +kernel
theorem kd_M_does_26 : decode b_M_does 26 = .ok (.iload_n 2, 1) := by decide +kernel
theorem kd_M_does_27 : decode b_M_does 27 = .ok (.bipush 8, 2) := by decide +kernel
theorem kd_M_does_29 : decode b_M_does 29 = .ok (.imul, 1) := by decide +kernel
theorem kd_M_does_30 : decode b_M_does 30 = .ok (.iload_n 3, 1) := by decide +kernel
theorem kd_M_does_31 : decode b_M_does 31 = .ok (.iadd, 1) := by decide +kernel
theorem kd_M_does_32 : decode b_M_does 32 = .ok (.invokevirtual 243, 3) := by decide +kernel
theorem kd_M_does_35 : decode b_M_does 35 = .ok (.goto 137, 3) := by decide +kernel
theorem kd_M_does_38 : decode b_M_does 38 = .ok (.iload_n 1, 1) := by decide +kernel
theorem kd_M_does_39 : decode b_M_does 39 = .ok (.bipush 24, 2) := by decide +kernel
theorem kd_M_does_41 : decode b_M_does 41 = .ok (.if_icmp .ne 12, 3) := by decide +kernel
theorem kd_M_does_44 : decode b_M_does 44 = .ok (.aload_n 0, 1) := by decide +kernel
theorem kd_M_does_45 : decode b_M_does 45 = .ok (.iload 5, 2) := by decide +kernel
theorem kd_M_does_47 : decode b_M_does 47 = .ok (.invokevirtual 246, 3) := by decide +kernel
theorem kd_M_does_50 : decode b_M_does 50 = .ok (.goto 122, 3) := by decide +kernel
theorem kd_M_does_53 : decode b_M_does 53 = .ok (.iload_n 1, 1) := by decide +kernel
theorem kd_M_does_54 : decode b_M_does 54 = .ok (.bipush 25, 2) := by decide +kernel
theorem kd_M_does_56 : decode b_M_does 56 = .ok (.if_icmp .ne 23, 3) := by decide +kernel
theorem kd_M_does_59 : decode b_M_does 59 = .ok (.aload_n 0, 1) := by decide +kernel
theorem kd_M_does_60 : decode b_M_does 60 = .ok (.bipush 32, 2) := by decide +kernel
theorem kd_M_does_62 : decode b_M_does 62 = .ok (.iload 5, 2) := by decide +kernel
theorem kd_M_does_64 : decode b_M_does 64 = .ok (.iadd, 1) := by decide +kernel
theorem kd_M_does_65 : decode b_M_does 65 = .ok (.bipush 8, 2) := by decide +kernel
theorem kd_M_does_67 : decode b_M_does 67 = .ok (.iload 4, 2) := by decide +kernel
theorem kd_M_does_69 : decode b_M_does 69 = .ok (.iconst 2, 1) := by decide +kernel
theorem kd_M_does_70 : decode b_M_does 70 = .ok (.irem, 1) := by decide +kernel
theorem kd_M_does_71 : decode b_M_does 71 = .ok (.imul, 1) := by decide +kernel
theorem kd_M_does_72 : decode b_M_does 72 = .ok (.iadd, 1) := by decide +kernel
theorem kd_M_does_73 : decode b_M_does 73 = .ok (.putfield 174, 3) := by decide +kernel
theorem kd_M_does_76 : decode b_M_does 76 = .ok (.goto 96, 3) := by decide +kernel
theorem kd_M_does_79 : decode b_M_does 79 = .ok (.iload_n 1, 1) := by decide +kernel
theorem kd_M_does_80 : decode b_M_does 80 = .ok (.bipush 28, 2) := by decide +kernel
theorem kd_M_does_82 : decode b_M_does 82 = .ok (.if_icmp .ne 22, 3) := by decide +kernel
theorem kd_M_does_85 : decode b_M_does 85 = .ok (.iload 4, 2) := by decide +kernel
theorem kd_M_does_87 : decode b_M_does 87 = .ok (.ifCond .ne 17, 3) := by decide +kernel
theorem kd_M_does_90 : decode b_M_does 90 = .ok (.aload_n 0, 1) := by decide +kernel
theorem kd_M_does_91 : decode b_M_does 91 = .ok (.aload_n 0, 1) := by decide +kernel
theorem kd_M_does_92 : decode b_M_does 92 = .ok (.getfield 16, 3) := by decide +kernel
theorem kd_M_does_95 : decode b_M_does 95 = .ok (.iload 5, 2) := by decide +kernel
theorem kd_M_does_97 : decode b_M_does 97 = .ok (.iaload, 1) := by decide +kernel
theorem kd_M_does_98 : decode b_M_does 98 = .ok (.putfield 137, 3) := by decide +kernel
theorem kd_M_does_101 : decode b_M_does 101 = .ok (.goto 71, 3) := by decide +kernel
theorem kd_M_does_104 : decode b_M_does 104 = .ok (.iload_n 1, 1) := by decide +kernel
theorem kd_M_does_105 : decode b_M_does 105 = .ok (.bipush 28, 2) := by decide +kernel
theorem kd_M_does_107 : decode b_M_does 107 = .ok (.if_icmp .ne 17, 3) := by decide +kernel
theorem kd_M_does_110 : decode b_M_does 110 = .ok (.aload_n 0, 1) := by decide +kernel
theorem kd_M_does_111 : decode b_M_does 111 = .ok (.getfield 16, 3) := by decide +kernel
theorem kd_M_does_114 : decode b_M_does 114 = .ok (.iload 5, 2) := by decide +kernel
theorem kd_M_does_116 : decode b_M_does 116 = .ok (.aload_n 0, 1) := by decide +kernel
theorem kd_M_does_117 : decode b_M_does 117 = .ok (.getfield 137, 3) := by decide +kernel
theorem kd_M_does_120 : decode b_M_does 120 = .ok (.iastore, 1) := by decide +kernel
theorem kd_M_does_121 : decode b_M_does 121 = .ok (.goto 51, 3) := by decide +kernel
theorem kd_M_does_124 : decode b_M_does 124 = .ok (.iload_n 1, 1) := by decide +kernel
theorem kd_M_does_125 : decode b_M_does 125 = .ok (.iconst 2, 1) := by decide +kernel
theorem kd_M_does_126 : decode b_M_does 126 = .ok (.if_icmp .eq 21, 3) := by decide +kernel
theorem kd_M_does_129 : decode b_M_does 129 = .ok (.iload_n 1, 1) := by decide +kernel
theorem kd_M_does_130 : decode b_M_does 130 = .ok (.bipush 11, 2) := by decide +kernel
theorem kd_M_does_132 : decode b_M_does 132 = .ok (.if_icmp .eq 15, 3) := by decide +kernel
theorem kd_M_does_135 : decode b_M_does 135 = .ok (.iload_n 1, 1) := by decide +kernel
theorem kd_M_does_136 : decode b_M_does 136 = .ok (.bipush 12, 2) := by decide +kernel
theorem kd_M_does_138 : decode b_M_does 138 = .ok (.if_icmp .eq 9, 3) := by decide +kernel
theorem kd_M_does_141 : decode b_M_does 141 = .ok (.iload_n 1, 1) := by decide +kernel
theorem kd_M_does_142 : decode b_M_does 142 = .ok (.bipush 17, 2) := by decide +kernel
theorem kd_M_does_144 : decode b_M_does 144 = .ok (.if_icmp .le 17, 3) := by decide +kernel
theorem kd_M_does_147 : decode b_M_does 147 = .ok (.aload_n 0, 1) := by decide +kernel
theorem kd_M_does_148 : decode b_M_does 148 = .ok (.iload_n 1, 1) := by decide +kernel
theorem kd_M_does_149 : decode b_M_does 149 = .ok (.iload_n 2, 1) := by decide +kernel
theorem kd_M_does_150 : decode b_M_does 150 = .ok (.iload_n 3, 1) := by decide +kernel
theorem kd_M_does_151 : decode b_M_does 151 = .ok (.iload 4, 2) := by decide +kernel
theorem kd_M_does_153 : decode b_M_does 153 = .ok (.iload 5, 2) := by decide +kernel
theorem kd_M_does_155 : decode b_M_does 155 = .ok (.invokevirtual 249, 3) := by decide +kernel
theorem kd_M_does_158 : decode b_M_does 158 = .ok (.goto 14, 3) := by decide +kernel
theorem kd_M_does_161 : decode b_M_does 161 = .ok (.aload_n 0, 1) := by decide +kernel
theorem kd_M_does_162 : decode b_M_does 162 = .ok (.iload_n 1, 1) := by decide +kernel
theorem kd_M_does_163 : decode b_M_does 163 = .ok (.iload_n 2, 1) := by decide +kernel
theorem kd_M_does_164 : decode b_M_does 164 = .ok (.iload_n 3, 1) := by decide +kernel
theorem kd_M_does_165 : decode b_M_does 165 = .ok (.iload 4, 2) := by decide +kernel
theorem kd_M_does_167 : decode b_M_does 167 = .ok (.iload 5, 2) := by decide +kernel
theorem kd_M_does_169 : decode b_M_does 169 = .ok (.invokevirtual 253, 3) := by decide +kernel
theorem kd_M_does_172 : decode b_M_does 172 = .ok (.return_, 1) := by decide +kernel
noncomputable def f_M_does_147 (s0 : ZS) (l1 : Int32) (l2 : Int32) (l3 : Int32) (l4 : Int32) (l5 : Int32) : Option (ZS) :=
  (f_M_others s0 l1 l2 l3 l4 l5).bind fun s1 =>
  some s1
noncomputable def f_M_does_104 (s0 : ZS) (l1 : Int32) (l2 : Int32) (l3 : Int32) (l4 : Int32) (l5 : Int32) : Option (ZS) :=
  if l1 = 28 then
    if l5 < 0 ∨ 8 ≤ l5.toNatClampNeg then none else
    zs_nm (zs_up s0 3 l5.toNatClampNeg (s0 0 1)) fun s3 =>
    some s3
  else
    if l1 = 2 then
      f_M_does_147 s0 l1 l2 l3 l4 l5
    else
      if l1 = 11 then
        f_M_does_147 s0 l1 l2 l3 l4 l5
      else
        if l1 = 12 then
          f_M_does_147 s0 l1 l2 l3 l4 l5
        else
          if l1 ≤ 17 then
            (f_M_reckons s0 l1 l2 l3 l4 l5).bind fun s2 =>
            some s2
          else
            f_M_does_147 s0 l1 l2 l3 l4 l5
noncomputable def f_M_does (s0 : ZS) (x1 : Int32) (x2 : Int32) (x3 : Int32) (x4 : Int32) (x5 : Int32) : Option (ZS) :=
  if x1 = 17 then
    (f_M_shifts s0 x2 x3 x4 x5).bind fun s8 =>
    some s8
  else
    if x1 = 21 then
      (f_M_branches s0 ((x2 * 8) + x3)).bind fun s7 =>
      some s7
    else
      if x1 = 24 then
        (f_M_returns s0 x5).bind fun s6 =>
        some s6
      else
        if x1 = 25 then
          zs_nm (zs_up s0 0 19 ((32 + x5) + (8 * (zo_irem x4 2)))) fun s5 =>
          some s5
        else
          if x1 = 28 then
            if x4 = 0 then
              if x5 < 0 ∨ 8 ≤ x5.toNatClampNeg then none else
              zs_nm (zs_up s0 0 1 (s0 3 x5.toNatClampNeg)) fun s4 =>
              some s4
            else
              f_M_does_104 s0 x1 x2 x3 x4 x5
          else
            f_M_does_104 s0 x1 x2 x3 x4 x5
theorem j_M_does_147 {P : ZP} {E : ZE} {A : Nat → Prop} (X : ZX E (zmV P) A "FrameMachineModel" b_M_does 6 none 6 153) (s0 : ZS) (l1 : Int32) (l2 : Int32) (l3 : Int32) (l4 : Int32) (l5 : Int32) : ZJ E (zmV P) A 6 (zFv E (zmV P) A) 147 [(0, .ref (P.1 0)), (1, .int l1), (2, .int l2), (3, .int l3), (4, .int l4), (5, .int l5)] [] s0 (f_M_does_147 s0 l1 l2 l3 l4 l5) := by
  unfold f_M_does_147
  refine zj_aload_n 148 0 X kd_M_does_147 rfl rfl rfl ?_
  refine zj_iload_n 149 1 X kd_M_does_148 rfl rfl rfl ?_
  refine zj_iload_n 150 2 X kd_M_does_149 rfl rfl rfl ?_
  refine zj_iload_n 151 3 X kd_M_does_150 rfl rfl rfl ?_
  refine zj_iload 153 4 X kd_M_does_151 rfl rfl ?_
  refine zj_iload 155 5 X kd_M_does_153 rfl rfl ?_
  refine mc_M_249 158 X kd_M_does_155 (Nat.le_of_ble_eq_true rfl) (Nat.le_of_ble_eq_true rfl) (Nat.le_of_ble_eq_true rfl) rfl (fun s1 => ?_)
  refine zj_goto 172 X kd_M_does_158 rfl ?_
  exact zj_vret X kd_M_does_172
theorem j_M_does_104 {P : ZP} {E : ZE} {A : Nat → Prop} (X : ZX E (zmV P) A "FrameMachineModel" b_M_does 6 none 6 153) (s0 : ZS) (l1 : Int32) (l2 : Int32) (l3 : Int32) (l4 : Int32) (l5 : Int32) : ZJ E (zmV P) A 6 (zFv E (zmV P) A) 104 [(0, .ref (P.1 0)), (1, .int l1), (2, .int l2), (3, .int l3), (4, .int l4), (5, .int l5)] [] s0 (f_M_does_104 s0 l1 l2 l3 l4 l5) := by
  unfold f_M_does_104
  refine zj_iload_n 105 1 X kd_M_does_104 rfl rfl rfl ?_
  refine zj_bipush 107 28 X kd_M_does_105 kb_28 rfl ?_
  refine zj_icmp_ne 124 110 X kd_M_does_107 rfl rfl (fun _ => ?_) (fun _ => ?_)
  · refine zj_aload_n 111 0 X kd_M_does_110 rfl rfl rfl ?_
    refine gf_M_16 114 X kd_M_does_111 rfl ?_
    refine zj_iload 116 5 X kd_M_does_114 rfl rfl ?_
    refine zj_aload_n 117 0 X kd_M_does_116 rfl rfl rfl ?_
    refine gf_M_137 120 X kd_M_does_117 rfl ?_
    refine zj_ng (fun hg => ?_)
    refine as_M_3 121 X kd_M_does_120 hg rfl ?_
    refine zj_nms (fun s3 => ?_)
    refine zj_goto 172 X kd_M_does_121 rfl ?_
    exact zj_vret X kd_M_does_172
  · refine zj_iload_n 125 1 X kd_M_does_124 rfl rfl rfl ?_
    refine zj_iconst 126 2 X kd_M_does_125 ki_2 rfl ?_
    refine zj_icmp_eq 147 129 X kd_M_does_126 rfl rfl (fun _ => ?_) (fun _ => ?_)
    · exact j_M_does_147 X s0 l1 l2 l3 l4 l5
    · refine zj_iload_n 130 1 X kd_M_does_129 rfl rfl rfl ?_
      refine zj_bipush 132 11 X kd_M_does_130 kb_11 rfl ?_
      refine zj_icmp_eq 147 135 X kd_M_does_132 rfl rfl (fun _ => ?_) (fun _ => ?_)
      · exact j_M_does_147 X s0 l1 l2 l3 l4 l5
      · refine zj_iload_n 136 1 X kd_M_does_135 rfl rfl rfl ?_
        refine zj_bipush 138 12 X kd_M_does_136 kb_12 rfl ?_
        refine zj_icmp_eq 147 141 X kd_M_does_138 rfl rfl (fun _ => ?_) (fun _ => ?_)
        · exact j_M_does_147 X s0 l1 l2 l3 l4 l5
        · refine zj_iload_n 142 1 X kd_M_does_141 rfl rfl rfl ?_
          refine zj_bipush 144 17 X kd_M_does_142 kb_17 rfl ?_
          refine zj_icmp_le 161 147 X kd_M_does_144 rfl rfl (fun _ => ?_) (fun _ => ?_)
          · refine zj_aload_n 162 0 X kd_M_does_161 rfl rfl rfl ?_
            refine zj_iload_n 163 1 X kd_M_does_162 rfl rfl rfl ?_
            refine zj_iload_n 164 2 X kd_M_does_163 rfl rfl rfl ?_
            refine zj_iload_n 165 3 X kd_M_does_164 rfl rfl rfl ?_
            refine zj_iload 167 4 X kd_M_does_165 rfl rfl ?_
            refine zj_iload 169 5 X kd_M_does_167 rfl rfl ?_
            refine mc_M_253 172 X kd_M_does_169 (Nat.le_of_ble_eq_true rfl) (Nat.le_of_ble_eq_true rfl) (Nat.le_of_ble_eq_true rfl) rfl (fun s2 => ?_)
            exact zj_vret X kd_M_does_172
          · exact j_M_does_147 X s0 l1 l2 l3 l4 l5
theorem j_M_does {P : ZP} {E : ZE} {A : Nat → Prop} (X : ZX E (zmV P) A "FrameMachineModel" b_M_does 6 none 6 153) (s0 : ZS) (x1 : Int32) (x2 : Int32) (x3 : Int32) (x4 : Int32) (x5 : Int32) : ZJ E (zmV P) A 6 (zFv E (zmV P) A) 0 [(0, .ref (P.1 0)), (1, .int x1), (2, .int x2), (3, .int x3), (4, .int x4), (5, .int x5)] [] s0 (f_M_does s0 x1 x2 x3 x4 x5) := by
  unfold f_M_does
  refine zj_iload_n 1 1 X kd_M_does_0 rfl rfl rfl ?_
  refine zj_bipush 3 17 X kd_M_does_1 kb_17 rfl ?_
  refine zj_icmp_ne 19 6 X kd_M_does_3 rfl rfl (fun _ => ?_) (fun _ => ?_)
  · refine zj_aload_n 7 0 X kd_M_does_6 rfl rfl rfl ?_
    refine zj_iload_n 8 2 X kd_M_does_7 rfl rfl rfl ?_
    refine zj_iload_n 9 3 X kd_M_does_8 rfl rfl rfl ?_
    refine zj_iload 11 4 X kd_M_does_9 rfl rfl ?_
    refine zj_iload 13 5 X kd_M_does_11 rfl rfl ?_
    refine mc_M_239 16 X kd_M_does_13 (Nat.le_of_ble_eq_true rfl) (Nat.le_of_ble_eq_true rfl) (Nat.le_of_ble_eq_true rfl) rfl (fun s8 => ?_)
    refine zj_goto 172 X kd_M_does_16 rfl ?_
    exact zj_vret X kd_M_does_172
  · refine zj_iload_n 20 1 X kd_M_does_19 rfl rfl rfl ?_
    refine zj_bipush 22 21 X kd_M_does_20 kb_21 rfl ?_
    refine zj_icmp_ne 38 25 X kd_M_does_22 rfl rfl (fun _ => ?_) (fun _ => ?_)
    · refine zj_aload_n 26 0 X kd_M_does_25 rfl rfl rfl ?_
      refine zj_iload_n 27 2 X kd_M_does_26 rfl rfl rfl ?_
      refine zj_bipush 29 8 X kd_M_does_27 kb_8 rfl ?_
      refine zj_imul 30 X kd_M_does_29 rfl ?_
      refine zj_iload_n 31 3 X kd_M_does_30 rfl rfl rfl ?_
      refine zj_iadd 32 X kd_M_does_31 rfl ?_
      refine mc_M_243 35 X kd_M_does_32 (Nat.le_of_ble_eq_true rfl) (Nat.le_of_ble_eq_true rfl) (Nat.le_of_ble_eq_true rfl) rfl (fun s7 => ?_)
      refine zj_goto 172 X kd_M_does_35 rfl ?_
      exact zj_vret X kd_M_does_172
    · refine zj_iload_n 39 1 X kd_M_does_38 rfl rfl rfl ?_
      refine zj_bipush 41 24 X kd_M_does_39 kb_24 rfl ?_
      refine zj_icmp_ne 53 44 X kd_M_does_41 rfl rfl (fun _ => ?_) (fun _ => ?_)
      · refine zj_aload_n 45 0 X kd_M_does_44 rfl rfl rfl ?_
        refine zj_iload 47 5 X kd_M_does_45 rfl rfl ?_
        refine mc_M_246 50 X kd_M_does_47 (Nat.le_of_ble_eq_true rfl) (Nat.le_of_ble_eq_true rfl) (Nat.le_of_ble_eq_true rfl) rfl (fun s6 => ?_)
        refine zj_goto 172 X kd_M_does_50 rfl ?_
        exact zj_vret X kd_M_does_172
      · refine zj_iload_n 54 1 X kd_M_does_53 rfl rfl rfl ?_
        refine zj_bipush 56 25 X kd_M_does_54 kb_25 rfl ?_
        refine zj_icmp_ne 79 59 X kd_M_does_56 rfl rfl (fun _ => ?_) (fun _ => ?_)
        · refine zj_aload_n 60 0 X kd_M_does_59 rfl rfl rfl ?_
          refine zj_bipush 62 32 X kd_M_does_60 kb_32 rfl ?_
          refine zj_iload 64 5 X kd_M_does_62 rfl rfl ?_
          refine zj_iadd 65 X kd_M_does_64 rfl ?_
          refine zj_bipush 67 8 X kd_M_does_65 kb_8 rfl ?_
          refine zj_iload 69 4 X kd_M_does_67 rfl rfl ?_
          refine zj_iconst 70 2 X kd_M_does_69 ki_2 rfl ?_
          refine zj_irem 71 X kd_M_does_70 (by decide) rfl ?_
          refine zj_imul 72 X kd_M_does_71 rfl ?_
          refine zj_iadd 73 X kd_M_does_72 rfl ?_
          refine pf_M_174 76 X kd_M_does_73 rfl ?_
          refine zj_nms (fun s5 => ?_)
          refine zj_goto 172 X kd_M_does_76 rfl ?_
          exact zj_vret X kd_M_does_172
        · refine zj_iload_n 80 1 X kd_M_does_79 rfl rfl rfl ?_
          refine zj_bipush 82 28 X kd_M_does_80 kb_28 rfl ?_
          refine zj_icmp_ne 104 85 X kd_M_does_82 rfl rfl (fun _ => ?_) (fun _ => ?_)
          · refine zj_iload 87 4 X kd_M_does_85 rfl rfl ?_
            refine zj_if_ne 104 90 X kd_M_does_87 rfl rfl (fun _ => ?_) (fun _ => ?_)
            · refine zj_aload_n 91 0 X kd_M_does_90 rfl rfl rfl ?_
              refine zj_aload_n 92 0 X kd_M_does_91 rfl rfl rfl ?_
              refine gf_M_16 95 X kd_M_does_92 rfl ?_
              refine zj_iload 97 5 X kd_M_does_95 rfl rfl ?_
              refine zj_ng (fun hg => ?_)
              refine al_M_3 98 X kd_M_does_97 hg rfl ?_
              refine pf_M_137 101 X kd_M_does_98 rfl ?_
              refine zj_nms (fun s4 => ?_)
              refine zj_goto 172 X kd_M_does_101 rfl ?_
              exact zj_vret X kd_M_does_172
            · exact j_M_does_104 X s0 x1 x2 x3 x4 x5
          · exact j_M_does_104 X s0 x1 x2 x3 x4 x5
theorem c_M_does {l : Launch} {P : ZP} (hV : ZVok (zmV P)) (s0 : ZS) (x1 : Int32) (x2 : Int32) (x3 : Int32) (x4 : Int32) (x5 : Int32) {z : ZS} (h : f_M_does s0 x1 x2 x3 x4 x5 = some z) : zMv l y_M_does b_M_does 6 none 6 153 (zmV P) s0 [.ref (P.1 0), .int x1, .int x2, .int x3, .int x4, .int x5] z :=
  zMv_of (by decide +kernel) rfl rfl (Nat.le_of_ble_eq_true rfl) hV (fun _ X => j_M_does X s0 x1 x2 x3 x4 x5) h
theorem kc_M_278 : zCV "FrameMachineModel" 278 y_M_does b_M_does 6 none 5 := ⟨⟨kw_972, kw_974, ksel_42, kw_11, kw_975⟩, by decide +kernel, by decide +kernel, by decide +kernel⟩
theorem mc_M_278 {ρ : Type} {E : ZE} {P : ZP} {A : Nat → Prop} {cc : ByteArray} {nL : Nat} {ret : Option FieldType} {fr lo : Nat} {F : ρ → State → Prop} {pc : Nat} {L : List (Nat × Value)} {rest : List Value} {σ : ZS} {x1 : Int32} {x2 : Int32} {x3 : Int32} {x4 : Int32} {x5 : Int32} {K : ZS → Option ρ} (q : Nat) (X : ZX E (zmV P) A "FrameMachineModel" cc nL ret fr lo) (d : decode cc pc = .ok (.invokevirtual 278, 3)) (hfr : 6 + 1 ≤ fr) (hlo : 8 + (6 + 11) + 153 ≤ lo) (hr : (rest.map fun v => v.category).sum ≤ 8) (hq : pc + 3 = q) (kk : ∀ p : ZS, ZJ E (zmV P) A nL F q L (rest) p (K p)) : ZJ E (zmV P) A nL F pc L (.int x5 :: .int x4 :: .int x3 :: .int x2 :: .int x1 :: .ref (P.1 0) :: rest) σ ((f_M_does σ x1 x2 x3 x4 x5).bind K) :=
  zj_cVv q 0 0 (As := [.int x1, .int x2, .int x3, .int x4, .int x5]) (rest := rest) X kc_M_278 hfr hlo (fun p h => c_M_does (zx_v X) σ x1 x2 x3 x4 x5 h) rfl rfl rfl hr d hq kk
-- FrameMachineModel.exception(III)V
theorem kd_M_exception_0 : decode b_M_exception 0 = .ok (.iload_n 1, 1) := by decide +kernel
theorem kd_M_exception_1 : decode b_M_exception 1 = .ok (.istore 4, 2) := by decide +kernel
theorem kd_M_exception_3 : decode b_M_exception 3 = .ok (.iload_n 2, 1) := by decide +kernel
theorem kd_M_exception_4 : decode b_M_exception 4 = .ok (.istore 5, 2) := by decide +kernel
theorem kd_M_exception_6 : decode b_M_exception 6 = .ok (.iconst 1, 1) := by decide +kernel
theorem kd_M_exception_7 : decode b_M_exception 7 = .ok (.istore 6, 2) := by decide +kernel
theorem kd_M_exception_9 : decode b_M_exception 9 = .ok (.iload 6, 2) := by decide +kernel
theorem kd_M_exception_11 : decode b_M_exception 11 = .ok (.ifCond .eq 281, 3) := by decide +kernel
theorem kd_M_exception_14 : decode b_M_exception 14 = .ok (.aload_n 0, 1) := by decide +kernel
theorem kd_M_exception_15 : decode b_M_exception 15 = .ok (.iload 4, 2) := by decide +kernel
theorem kd_M_exception_17 : decode b_M_exception 17 = .ok (.putfield 256, 3) := by decide +kernel
theorem kd_M_exception_20 : decode b_M_exception 20 = .ok (.aload_n 0, 1) := by decide +kernel
theorem kd_M_exception_21 : decode b_M_exception 21 = .ok (.dup, 1) := by decide +kernel
theorem kd_M_exception_22 : decode b_M_exception 22 = .ok (.getfield 259, 3) := by decide +kernel
theorem kd_M_exception_25 : decode b_M_exception 25 = .ok (.iconst 1, 1) := by decide +kernel
theorem kd_M_exception_26 : decode b_M_exception 26 = .ok (.iadd, 1) := by decide +kernel
theorem kd_M_exception_27 : decode b_M_exception 27 = .ok (.putfield 259, 3) := by decide +kernel
theorem kd_M_exception_30 : decode b_M_exception 30 = .ok (.aload_n 0, 1) := by decide +kernel
theorem kd_M_exception_31 : decode b_M_exception 31 = .ok (.iload 4, 2) := by decide +kernel
theorem kd_M_exception_33 : decode b_M_exception 33 = .ok (.putfield 262, 3) := by decide +kernel
theorem kd_M_exception_36 : decode b_M_exception 36 = .ok (.aload_n 0, 1) := by decide +kernel
theorem kd_M_exception_37 : decode b_M_exception 37 = .ok (.getfield 77, 3) := by decide +kernel
theorem kd_M_exception_40 : decode b_M_exception 40 = .ok (.istore 7, 2) := by decide +kernel
theorem kd_M_exception_42 : decode b_M_exception 42 = .ok (.aload_n 0, 1) := by decide +kernel
theorem kd_M_exception_43 : decode b_M_exception 43 = .ok (.getfield 80, 3) := by decide +kernel
theorem kd_M_exception_46 : decode b_M_exception 46 = .ok (.istore 8, 2) := by decide +kernel
theorem kd_M_exception_48 : decode b_M_exception 48 = .ok (.aload_n 0, 1) := by decide +kernel
theorem kd_M_exception_49 : decode b_M_exception 49 = .ok (.iconst 0, 1) := by decide +kernel
theorem kd_M_exception_50 : decode b_M_exception 50 = .ok (.putfield 64, 3) := by decide +kernel
theorem kd_M_exception_53 : decode b_M_exception 53 = .ok (.aload_n 0, 1) := by decide +kernel
theorem kd_M_exception_54 : decode b_M_exception 54 = .ok (.invokevirtual 204, 3) := by decide +kernel
theorem kd_M_exception_57 : decode b_M_exception 57 = .ok (.istore 9, 2) := by decide +kernel
theorem kd_M_exception_59 : decode b_M_exception 59 = .ok (.aload_n 0, 1) := by decide +kernel
theorem kd_M_exception_60 : decode b_M_exception 60 = .ok (.iconst 1, 1) := by decide +kernel
theorem kd_M_exception_61 : decode b_M_exception 61 = .ok (.invokevirtual 140, 3) := by decide +kernel
theorem kd_M_exception_64 : decode b_M_exception 64 = .ok (.aload_n 0, 1) := by decide +kernel
theorem kd_M_exception_65 : decode b_M_exception 65 = .ok (.iconst 0, 1) := by decide +kernel
theorem kd_M_exception_66 : decode b_M_exception 66 = .ok (.putfield 119, 3) := by decide +kernel
theorem kd_M_exception_69 : decode b_M_exception 69 = .ok (.aload_n 0, 1) := by decide +kernel
theorem kd_M_exception_70 : decode b_M_exception 70 = .ok (.iload_n 3, 1) := by decide +kernel
theorem kd_M_exception_71 : decode b_M_exception 71 = .ok (.iconst (-1), 1) := by decide +kernel
theorem kd_M_exception_72 : decode b_M_exception 72 = .ok (.if_icmp .eq 10, 3) := by decide +kernel
theorem kd_M_exception_75 : decode b_M_exception 75 = .ok (.iload 4, 2) := by decide +kernel
theorem kd_M_exception_77 : decode b_M_exception 77 = .ok (.bipush 9, 2) := by decide +kernel
theorem kd_M_exception_79 : decode b_M_exception 79 = .ok (.if_icmp .ge 10, 3) := by decide +kernel
theorem kd_M_exception_82 : decode b_M_exception 82 = .ok (.aload_n 0, 1) := by decide +kernel
theorem kd_M_exception_83 : decode b_M_exception 83 = .ok (.getfield 23, 3) := by decide +kernel
theorem kd_M_exception_86 : decode b_M_exception 86 = .ok (.goto 4, 3) := by decide +kernel
theorem kd_M_exception_89 : decode b_M_exception 89 = .ok (.iload_n 3, 1) := by decide +kernel
theorem kd_M_exception_90 : decode b_M_exception 90 = .ok (.putfield 23, 3) := by decide +kernel
theorem kd_M_exception_93 : decode b_M_exception 93 = .ok (.aload_n 0, 1) := by decide +kernel
theorem kd_M_exception_94 : decode b_M_exception 94 = .ok (.iconst 2, 1) := by decide +kernel
theorem kd_M_exception_95 : decode b_M_exception 95 = .ok (.iload 5, 2) := by decide +kernel
theorem kd_M_exception_97 : decode b_M_exception 97 = .ok (.i2l, 1) := by decide +kernel
theorem kd_M_exception_98 : decode b_M_exception 98 = .ok (.ldc2_w 67, 3) := by decide +kernel
theorem kd_M_exception_101 : decode b_M_exception 101 = .ok (.land, 1) := by decide +kernel
theorem kd_M_exception_102 : decode b_M_exception 102 = .ok (.invokevirtual 218, 3) := by decide +kernel
theorem kd_M_exception_105 : decode b_M_exception 105 = .ok (.aload_n 0, 1) := by decide +kernel
theorem kd_M_exception_106 : decode b_M_exception 106 = .ok (.getfield 64, 3) := by decide +kernel
theorem kd_M_exception_109 : decode b_M_exception 109 = .ok (.ifCond .ne 11, 3) := by decide +kernel
theorem kd_M_exception_112 : decode b_M_exception 112 = .ok (.aload_n 0, 1) := by decide +kernel
theorem kd_M_exception_113 : decode b_M_exception 113 = .ok (.iconst 1, 1) := by decide +kernel
theorem kd_M_exception_114 : decode b_M_exception 114 = .ok (.iload 9, 2) := by decide +kernel
theorem kd_M_exception_116 : decode b_M_exception 116 = .ok (.i2l, 1) := by decide +kernel
theorem kd_M_exception_117 : decode b_M_exception 117 = .ok (.invokevirtual 218, 3) := by decide +kernel
theorem kd_M_exception_120 : decode b_M_exception 120 = .ok (.iload 4, 2) := by decide +kernel
theorem kd_M_exception_122 : decode b_M_exception 122 = .ok (.iconst 4, 1) := by decide +kernel
theorem kd_M_exception_123 : decode b_M_exception 123 = .ok (.if_icmp .ge 20, 3) := by decide +kernel
theorem kd_M_exception_126 : decode b_M_exception 126 = .ok (.aload_n 0, 1) := by decide +kernel
theorem kd_M_exception_127 : decode b_M_exception 127 = .ok (.getfield 64, 3) := by decide +kernel
theorem kd_M_exception_130 : decode b_M_exception 130 = .ok (.ifCond .ne 13, 3) := by decide +kernel
theorem kd_M_exception_133 : decode b_M_exception 133 = .ok (.aload_n 0, 1) := by decide +kernel
theorem kd_M_exception_134 : decode b_M_exception 134 = .ok (.iconst 1, 1) := by decide +kernel
theorem kd_M_exception_135 : decode b_M_exception 135 = .ok (.aload_n 0, 1) := by decide +kernel
theorem kd_M_exception_136 : decode b_M_exception 136 = .ok (.getfield 265, 3) := by decide +kernel
theorem kd_M_exception_139 : decode b_M_exception 139 = .ok (.i2l, 1) := by decide +kernel
theorem kd_M_exception_140 : decode b_M_exception 140 = .ok (.invokevirtual 218, 3) := by decide +kernel
theorem kd_M_exception_143 : decode b_M_exception 143 = .ok (.iload 4, 2) := by decide +kernel
theorem kd_M_exception_145 : decode b_M_exception 145 = .ok (.iconst 4, 1) := by decide +kernel
theorem kd_M_exception_146 : decode b_M_exception 146 = .ok (.if_icmp .ge 22, 3) := by decide +kernel
theorem kd_M_exception_149 : decode b_M_exception 149 = .ok (.aload_n 0, 1) := by decide +kernel
theorem kd_M_exception_150 : decode b_M_exception 150 = .ok (.getfield 64, 3) := by decide +kernel
theorem kd_M_exception_153 : decode b_M_exception 153 = .ok (.ifCond .ne 15, 3) := by decide +kernel
theorem kd_M_exception_156 : decode b_M_exception 156 = .ok (.aload_n 0, 1) := by decide +kernel
theorem kd_M_exception_157 : decode b_M_exception 157 = .ok (.iconst 2, 1) := by decide +kernel
theorem kd_M_exception_158 : decode b_M_exception 158 = .ok (.iload 7, 2) := by decide +kernel
theorem kd_M_exception_160 : decode b_M_exception 160 = .ok (.i2l, 1) := by decide +kernel
theorem kd_M_exception_161 : decode b_M_exception 161 = .ok (.ldc2_w 67, 3) := by decide +kernel
theorem kd_M_exception_164 : decode b_M_exception 164 = .ok (.land, 1) := by decide +kernel
theorem kd_M_exception_165 : decode b_M_exception 165 = .ok (.invokevirtual 218, 3) := by decide +kernel
theorem kd_M_exception_168 : decode b_M_exception 168 = .ok (.iload 4, 2) := by decide +kernel
theorem kd_M_exception_170 : decode b_M_exception 170 = .ok (.iconst 4, 1) := by decide +kernel
theorem kd_M_exception_171 : decode b_M_exception 171 = .ok (.if_icmp .ge 18, 3) := by decide +kernel
theorem kd_M_exception_174 : decode b_M_exception 174 = .ok (.aload_n 0, 1) := by decide +kernel
theorem kd_M_exception_175 : decode b_M_exception 175 = .ok (.getfield 64, 3) := by decide +kernel
theorem kd_M_exception_178 : decode b_M_exception 178 = .ok (.ifCond .ne 11, 3) := by decide +kernel
theorem kd_M_exception_181 : decode b_M_exception 181 = .ok (.aload_n 0, 1) := by decide +kernel
theorem kd_M_exception_182 : decode b_M_exception 182 = .ok (.iconst 1, 1) := by decide +kernel
theorem kd_M_exception_183 : decode b_M_exception 183 = .ok (.iload 8, 2) := by decide +kernel
theorem kd_M_exception_185 : decode b_M_exception 185 = .ok (.i2l, 1) := by decide +kernel
theorem kd_M_exception_186 : decode b_M_exception 186 = .ok (.invokevirtual 218, 3) := by decide +kernel
theorem kd_M_exception_189 : decode b_M_exception 189 = .ok (.aload_n 0, 1) := by decide +kernel
theorem kd_M_exception_190 : decode b_M_exception 190 = .ok (.iconst 4, 1) := by decide +kernel
theorem kd_M_exception_191 : decode b_M_exception 191 = .ok (.iload 4, 2) := by decide +kernel
theorem kd_M_exception_193 : decode b_M_exception 193 = .ok (.imul, 1) := by decide +kernel
theorem kd_M_exception_194 : decode b_M_exception 194 = .ok (.iconst 2, 1) := by decide +kernel
theorem kd_M_exception_195 : decode b_M_exception 195 = .ok (.invokevirtual 106, 3) := by decide +kernel
theorem kd_M_exception_198 : decode b_M_exception 198 = .ok (.l2i, 1) := by decide +kernel
theorem kd_M_exception_199 : decode b_M_exception 199 = .ok (.istore 10, 2) := by decide +kernel
theorem kd_M_exception_201 : decode b_M_exception 201 = .ok (.aload_n 0, 1) := by decide +kernel
theorem kd_M_exception_202 : decode b_M_exception 202 = .ok (.aload_n 0, 1) := by decide +kernel
theorem kd_M_exception_203 : decode b_M_exception 203 = .ok (.getfield 64, 3) := by decide +kernel
theorem kd_M_exception_206 : decode b_M_exception 206 = .ok (.ifCond .ne 8, 3) := by decide +kernel
theorem kd_M_exception_209 : decode b_M_exception 209 = .ok (.iload 10, 2) := by decide +kernel
theorem kd_M_exception_211 : decode b_M_exception 211 = .ok (.goto 7, 3) := by decide +kernel
theorem kd_M_exception_214 : decode b_M_exception 214 = .ok (.aload_n 0, 1) := by decide +kernel
theorem kd_M_exception_215 : decode b_M_exception 215 = .ok (.getfield 103, 3) := by decide +kernel
theorem kd_M_exception_218 : decode b_M_exception 218 = .ok (.putfield 103, 3) := by decide +kernel
theorem kd_M_exception_221 : decode b_M_exception 221 = .ok (.aload_n 0, 1) := by decide +kernel
theorem kd_M_exception_222 : decode b_M_exception 222 = .ok (.getfield 64, 3) := by decide +kernel
theorem kd_M_exception_225 : decode b_M_exception 225 = .ok (.ifCond .eq 13, 3) := by decide +kernel
theorem kd_M_exception_228 : decode b_M_exception 228 = .ok (.iload 4, 2) := by decide +kernel
theorem kd_M_exception_230 : decode b_M_exception 230 = .ok (.iconst 3, 1) := by decide +kernel
theorem kd_M_exception_231 : decode b_M_exception 231 = .ok (.if_icmp .le 7, 3) := by decide +kernel
theorem kd_M_exception_234 : decode b_M_exception 234 = .ok (.iconst 1, 1) := by decide +kernel
theorem kd_M_exception_235 : decode b_M_exception 235 = .ok (.goto 4, 3) := by decide +kernel
theorem kd_M_exception_238 : decode b_M_exception 238 = .ok (.iconst 0, 1) := by decide +kernel
theorem kd_M_exception_239 : decode b_M_exception 239 = .ok (.istore 6, 2) := by decide +kernel
theorem kd_M_exception_241 : decode b_M_exception 241 = .ok (.aload_n 0, 1) := by decide +kernel
theorem kd_M_exception_242 : decode b_M_exception 242 = .ok (.getfield 64, 3) := by decide +kernel
theorem kd_M_exception_245 : decode b_M_exception 245 = .ok (.ifCond .eq 32, 3) := by decide +kernel
theorem kd_M_exception_248 : decode b_M_exception 248 = .ok (.iload 4, 2) := by decide +kernel
theorem kd_M_exception_250 : decode b_M_exception 250 = .ok (.iconst 4, 1) := by decide +kernel
theorem kd_M_exception_251 : decode b_M_exception 251 = .ok (.if_icmp .ge 26, 3) := by decide +kernel
theorem kd_M_exception_254 : decode b_M_exception 254 = .ok (.aload_n 0, 1) := by decide +kernel
theorem kd_M_exception_255 : decode b_M_exception 255 = .ok (.aload_n 0, 1) := by decide +kernel
theorem kd_M_exception_256 : decode b_M_exception 256 = .ok (.getfield 64, 3) := by decide +kernel
theorem kd_M_exception_259 : decode b_M_exception 259 = .ok (.putfield 256, 3) := by decide +kernel
theorem kd_M_exception_262 : decode b_M_exception 262 = .ok (.aload_n 0, 1) := by decide +kernel
theorem kd_M_exception_263 : decode b_M_exception 263 = .ok (.dup, 1) := by decide +kernel
theorem kd_M_exception_264 : decode b_M_exception 264 = .ok (.getfield 259, 3) := by decide +kernel
theorem kd_M_exception_267 : decode b_M_exception 267 = .ok (.iconst 1, 1) := by decide +kernel
theorem kd_M_exception_268 : decode b_M_exception 268 = .ok (.iadd, 1) := by decide +kernel
theorem kd_M_exception_269 : decode b_M_exception 269 = .ok (.putfield 259, 3) := by decide +kernel
theorem kd_M_exception_272 : decode b_M_exception 272 = .ok (.aload_n 0, 1) := by decide +kernel
theorem kd_M_exception_273 : decode b_M_exception 273 = .ok (.iconst 2, 1) := by decide +kernel
theorem kd_M_exception_274 : decode b_M_exception 274 = .ok (.putfield 229, 3) := by decide +kernel
theorem kd_M_exception_277 : decode b_M_exception 277 = .ok (.aload_n 0, 1) := by decide +kernel
theorem kd_M_exception_278 : decode b_M_exception 278 = .ok (.getfield 103, 3) := by decide +kernel
theorem kd_M_exception_281 : decode b_M_exception 281 = .ok (.istore 5, 2) := by decide +kernel
theorem kd_M_exception_283 : decode b_M_exception 283 = .ok (.aload_n 0, 1) := by decide +kernel
theorem kd_M_exception_284 : decode b_M_exception 284 = .ok (.getfield 64, 3) := by decide +kernel
theorem kd_M_exception_287 : decode b_M_exception 287 = .ok (.istore 4, 2) := by decide +kernel
theorem kd_M_exception_289 : decode b_M_exception 289 = .ok (.goto (-280), 3) := by decide +kernel
theorem kd_M_exception_292 : decode b_M_exception 292 = .ok (.aload_n 0, 1) := by decide +kernel
theorem kd_M_exception_293 : decode b_M_exception 293 = .ok (.iconst 0, 1) := by decide +kernel
theorem kd_M_exception_294 : decode b_M_exception 294 = .ok (.putfield 64, 3) := by decide +kernel
theorem kd_M_exception_297 : decode b_M_exception 297 = .ok (.return_, 1) := by decide +kernel
noncomputable def f_M_exception_277 (K : ZS → Int32 → Int32 → Int32 → Int32 → Option (ZS)) (s0 : ZS) (l3 : Int32) (l6 : Int32) : Option (ZS) :=
  zs_nm (s0 0 2) fun v16 =>
  zs_nm (s0 0 15) fun v17 =>
  K s0 l3 v17 v16 l6
noncomputable def f_M_exception_239 (K : ZS → Int32 → Int32 → Int32 → Int32 → Option (ZS)) (s0 : ZS) (l3 : Int32) (l4 : Int32) (t0 : Int32) : Option (ZS) :=
  if (s0 0 15) = 0 then
    f_M_exception_277 K s0 l3 t0
  else
    if 4 ≤ l4 then
      f_M_exception_277 K s0 l3 t0
    else
      zs_nm (zs_up s0 0 13 (s0 0 15)) fun s18 =>
      zs_nm (zs_up s18 0 14 ((s18 0 14) + 1)) fun s19 =>
      zs_nm (zs_up s19 0 11 2) fun s20 =>
      f_M_exception_277 K s20 l3 t0
noncomputable def f_M_exception_238 (K : ZS → Int32 → Int32 → Int32 → Int32 → Option (ZS)) (s0 : ZS) (l3 : Int32) (l4 : Int32) : Option (ZS) :=
  f_M_exception_239 K s0 l3 l4 0
noncomputable def f_M_exception_218 (K : ZS → Int32 → Int32 → Int32 → Int32 → Option (ZS)) (s0 : ZS) (l3 : Int32) (l4 : Int32) (t0 : Int32) : Option (ZS) :=
  zs_nm (zs_up s0 0 2 t0) fun s15 =>
  if (s15 0 15) = 0 then
    f_M_exception_238 K s15 l3 l4
  else
    if l4 ≤ 3 then
      f_M_exception_238 K s15 l3 l4
    else
      f_M_exception_239 K s15 l3 l4 1
noncomputable def f_M_exception_189 (K : ZS → Int32 → Int32 → Int32 → Int32 → Option (ZS)) (s0 : ZS) (l3 : Int32) (l4 : Int32) : Option (ZS) :=
  (f_M_read s0 (4 * l4) 2).bind fun p13 =>
  zs_nm (p13.1.toInt32) fun v14 =>
  if (p13.2 0 15) = 0 then
    f_M_exception_218 K p13.2 l3 l4 v14
  else
    f_M_exception_218 K p13.2 l3 l4 ((p13.2 0 2))
noncomputable def f_M_exception_168 (K : ZS → Int32 → Int32 → Int32 → Int32 → Option (ZS)) (s0 : ZS) (l3 : Int32) (l4 : Int32) (l8 : Int32) : Option (ZS) :=
  if 4 ≤ l4 then
    f_M_exception_189 K s0 l3 l4
  else
    if (s0 0 15) = 0 then
      (f_M_push s0 1 (l8.toInt64)).bind fun s21 =>
      f_M_exception_189 K s21 l3 l4
    else
      f_M_exception_189 K s0 l3 l4
noncomputable def f_M_exception_143 (K : ZS → Int32 → Int32 → Int32 → Int32 → Option (ZS)) (s0 : ZS) (l3 : Int32) (l4 : Int32) (l7 : Int32) (l8 : Int32) : Option (ZS) :=
  if 4 ≤ l4 then
    f_M_exception_168 K s0 l3 l4 l8
  else
    if (s0 0 15) = 0 then
      (f_M_push s0 2 ((l7.toInt64) &&& 4294967295)).bind fun s22 =>
      f_M_exception_168 K s22 l3 l4 l8
    else
      f_M_exception_168 K s0 l3 l4 l8
noncomputable def f_M_exception_120 (K : ZS → Int32 → Int32 → Int32 → Int32 → Option (ZS)) (s0 : ZS) (l3 : Int32) (l4 : Int32) (l7 : Int32) (l8 : Int32) : Option (ZS) :=
  if 4 ≤ l4 then
    f_M_exception_143 K s0 l3 l4 l7 l8
  else
    if (s0 0 15) = 0 then
      (f_M_push s0 1 ((s0 0 18).toInt64)).bind fun s23 =>
      f_M_exception_143 K s23 l3 l4 l7 l8
    else
      f_M_exception_143 K s0 l3 l4 l7 l8
noncomputable def f_M_exception_90 (K : ZS → Int32 → Int32 → Int32 → Int32 → Option (ZS)) (s0 : ZS) (l3 : Int32) (l4 : Int32) (l5 : Int32) (l7 : Int32) (l8 : Int32) (l9 : Int32) (t0 : Int32) : Option (ZS) :=
  zs_nm (zs_up s0 0 5 t0) fun s11 =>
  (f_M_push s11 2 ((l5.toInt64) &&& 4294967295)).bind fun s12 =>
  if (s12 0 15) = 0 then
    (f_M_push s12 1 (l9.toInt64)).bind fun s24 =>
    f_M_exception_120 K s24 l3 l4 l7 l8
  else
    f_M_exception_120 K s12 l3 l4 l7 l8
noncomputable def f_M_exception_82 (K : ZS → Int32 → Int32 → Int32 → Int32 → Option (ZS)) (s0 : ZS) (l3 : Int32) (l4 : Int32) (l5 : Int32) (l7 : Int32) (l8 : Int32) (l9 : Int32) : Option (ZS) :=
  f_M_exception_90 K s0 l3 l4 l5 l7 l8 l9 ((s0 0 5))
noncomputable def f_M_exception_9 : Nat → ZS → Int32 → Int32 → Int32 → Int32 → Option (ZS)
  | 0, _, _, _, _, _ => none
  | n+1, s0, l3, l4, l5, l6 =>
    if l6 = 0 then
      zs_nm (zs_up s0 0 15 0) fun s1 =>
      some s1
    else
      zs_nm (zs_up s0 0 13 l4) fun s2 =>
      zs_nm (zs_up s2 0 14 ((s2 0 14) + 1)) fun s3 =>
      zs_nm (zs_up s3 0 20 l4) fun s4 =>
      zs_nm (s4 0 16) fun v5 =>
      zs_nm (s4 0 17) fun v6 =>
      zs_nm (zs_up s4 0 15 0) fun s7 =>
      (f_M_packed s7 ).bind fun p8 =>
      (f_M_setAbove p8.2 1).bind fun s9 =>
      zs_nm (zs_up s9 0 3 0) fun s10 =>
      if l3 = ((-1)) then
        f_M_exception_82 (f_M_exception_9 n) s10 l3 l4 l5 v5 v6 p8.1
      else
        if 9 ≤ l4 then
          f_M_exception_90 (f_M_exception_9 n) s10 l3 l4 l5 v5 v6 p8.1 l3
        else
          f_M_exception_82 (f_M_exception_9 n) s10 l3 l4 l5 v5 v6 p8.1
noncomputable def f_M_exception (s0 : ZS) (x1 : Int32) (x2 : Int32) (x3 : Int32) : Option (ZS) :=
  f_M_exception_9 20 s0 x3 x1 x2 1
theorem j_M_exception_277 {P : ZP} {E : ZE} {A : Nat → Prop} (X : ZX E (zmV P) A "FrameMachineModel" b_M_exception 11 none 3 75) (K : ZS → Int32 → Int32 → Int32 → Int32 → Option (ZS)) (hK : ∀ (s0 : ZS) (l3 : Int32) (l4 : Int32) (l5 : Int32) (l6 : Int32), ZJ E (zmV P) A 11 (zFv E (zmV P) A) 9 [(0, .ref (P.1 0)), (3, .int l3), (4, .int l4), (5, .int l5), (6, .int l6)] [] s0 (K s0 l3 l4 l5 l6)) (s0 : ZS) (l3 : Int32) (l6 : Int32) : ZJ E (zmV P) A 11 (zFv E (zmV P) A) 277 [(0, .ref (P.1 0)), (3, .int l3), (6, .int l6)] [] s0 (f_M_exception_277 K s0 l3 l6) := by
  unfold f_M_exception_277
  refine zj_aload_n 278 0 X kd_M_exception_277 rfl rfl rfl ?_
  refine gf_M_103 281 X kd_M_exception_278 rfl ?_
  refine zj_nmi (fun v16 => ?_)
  refine zj_istore 283 [(5, .int v16), (0, .ref (P.1 0)), (3, .int l3), (6, .int l6)] X kd_M_exception_281 (Nat.le_of_ble_eq_true rfl) rfl rfl ?_
  refine zj_aload_n 284 1 X kd_M_exception_283 rfl rfl rfl ?_
  refine gf_M_64 287 X kd_M_exception_284 rfl ?_
  refine zj_nmi (fun v17 => ?_)
  refine zj_istore 289 [(4, .int v17), (5, .int v16), (0, .ref (P.1 0)), (3, .int l3), (6, .int l6)] X kd_M_exception_287 (Nat.le_of_ble_eq_true rfl) rfl rfl ?_
  refine zj_goto 9 X kd_M_exception_289 rfl ?_
  refine zj_loc [2, 3, 0, 1, 4] (L2 := [(0, .ref (P.1 0)), (3, .int l3), (4, .int v17), (5, .int v16), (6, .int l6)]) rfl ?_
  exact hK s0 l3 v17 v16 l6
theorem j_M_exception_239 {P : ZP} {E : ZE} {A : Nat → Prop} (X : ZX E (zmV P) A "FrameMachineModel" b_M_exception 11 none 3 75) (K : ZS → Int32 → Int32 → Int32 → Int32 → Option (ZS)) (hK : ∀ (s0 : ZS) (l3 : Int32) (l4 : Int32) (l5 : Int32) (l6 : Int32), ZJ E (zmV P) A 11 (zFv E (zmV P) A) 9 [(0, .ref (P.1 0)), (3, .int l3), (4, .int l4), (5, .int l5), (6, .int l6)] [] s0 (K s0 l3 l4 l5 l6)) (s0 : ZS) (l3 : Int32) (l4 : Int32) (t0 : Int32) : ZJ E (zmV P) A 11 (zFv E (zmV P) A) 239 [(0, .ref (P.1 0)), (3, .int l3), (4, .int l4)] [.int t0] s0 (f_M_exception_239 K s0 l3 l4 t0) := by
  unfold f_M_exception_239
  refine zj_istore 241 [(6, .int t0), (0, .ref (P.1 0)), (3, .int l3), (4, .int l4)] X kd_M_exception_239 (Nat.le_of_ble_eq_true rfl) rfl rfl ?_
  refine zj_aload_n 242 1 X kd_M_exception_241 rfl rfl rfl ?_
  refine gf_M_64 245 X kd_M_exception_242 rfl ?_
  refine zj_if_eq 277 248 X kd_M_exception_245 rfl rfl (fun _ => ?_) (fun _ => ?_)
  · refine zj_loc [1, 2, 0] (L2 := [(0, .ref (P.1 0)), (3, .int l3), (6, .int t0)]) rfl ?_
    exact j_M_exception_277 X K hK s0 l3 t0
  · refine zj_iload 250 3 X kd_M_exception_248 rfl rfl ?_
    refine zj_iconst 251 4 X kd_M_exception_250 ki_4 rfl ?_
    refine zj_icmp_ge 277 254 X kd_M_exception_251 rfl rfl (fun _ => ?_) (fun _ => ?_)
    · refine zj_loc [1, 2, 0] (L2 := [(0, .ref (P.1 0)), (3, .int l3), (6, .int t0)]) rfl ?_
      exact j_M_exception_277 X K hK s0 l3 t0
    · refine zj_aload_n 255 1 X kd_M_exception_254 rfl rfl rfl ?_
      refine zj_aload_n 256 1 X kd_M_exception_255 rfl rfl rfl ?_
      refine gf_M_64 259 X kd_M_exception_256 rfl ?_
      refine pf_M_256 262 X kd_M_exception_259 rfl ?_
      refine zj_nms (fun s18 => ?_)
      refine zj_aload_n 263 1 X kd_M_exception_262 rfl rfl rfl ?_
      refine zj_dup 264 X kd_M_exception_263 rfl rfl ?_
      refine gf_M_259 267 X kd_M_exception_264 rfl ?_
      refine zj_iconst 268 1 X kd_M_exception_267 ki_1 rfl ?_
      refine zj_iadd 269 X kd_M_exception_268 rfl ?_
      refine pf_M_259 272 X kd_M_exception_269 rfl ?_
      refine zj_nms (fun s19 => ?_)
      refine zj_aload_n 273 1 X kd_M_exception_272 rfl rfl rfl ?_
      refine zj_iconst 274 2 X kd_M_exception_273 ki_2 rfl ?_
      refine pf_M_229 277 X kd_M_exception_274 rfl ?_
      refine zj_nms (fun s20 => ?_)
      refine zj_loc [1, 2, 0] (L2 := [(0, .ref (P.1 0)), (3, .int l3), (6, .int t0)]) rfl ?_
      exact j_M_exception_277 X K hK s20 l3 t0
theorem j_M_exception_238 {P : ZP} {E : ZE} {A : Nat → Prop} (X : ZX E (zmV P) A "FrameMachineModel" b_M_exception 11 none 3 75) (K : ZS → Int32 → Int32 → Int32 → Int32 → Option (ZS)) (hK : ∀ (s0 : ZS) (l3 : Int32) (l4 : Int32) (l5 : Int32) (l6 : Int32), ZJ E (zmV P) A 11 (zFv E (zmV P) A) 9 [(0, .ref (P.1 0)), (3, .int l3), (4, .int l4), (5, .int l5), (6, .int l6)] [] s0 (K s0 l3 l4 l5 l6)) (s0 : ZS) (l3 : Int32) (l4 : Int32) : ZJ E (zmV P) A 11 (zFv E (zmV P) A) 238 [(0, .ref (P.1 0)), (3, .int l3), (4, .int l4)] [] s0 (f_M_exception_238 K s0 l3 l4) := by
  unfold f_M_exception_238
  refine zj_iconst 239 0 X kd_M_exception_238 ki_0 rfl ?_
  exact j_M_exception_239 X K hK s0 l3 l4 0
theorem j_M_exception_218 {P : ZP} {E : ZE} {A : Nat → Prop} (X : ZX E (zmV P) A "FrameMachineModel" b_M_exception 11 none 3 75) (K : ZS → Int32 → Int32 → Int32 → Int32 → Option (ZS)) (hK : ∀ (s0 : ZS) (l3 : Int32) (l4 : Int32) (l5 : Int32) (l6 : Int32), ZJ E (zmV P) A 11 (zFv E (zmV P) A) 9 [(0, .ref (P.1 0)), (3, .int l3), (4, .int l4), (5, .int l5), (6, .int l6)] [] s0 (K s0 l3 l4 l5 l6)) (s0 : ZS) (l3 : Int32) (l4 : Int32) (t0 : Int32) : ZJ E (zmV P) A 11 (zFv E (zmV P) A) 218 [(0, .ref (P.1 0)), (3, .int l3), (4, .int l4)] [.int t0, .ref (P.1 0)] s0 (f_M_exception_218 K s0 l3 l4 t0) := by
  unfold f_M_exception_218
  refine pf_M_103 221 X kd_M_exception_218 rfl ?_
  refine zj_nms (fun s15 => ?_)
  refine zj_aload_n 222 0 X kd_M_exception_221 rfl rfl rfl ?_
  refine gf_M_64 225 X kd_M_exception_222 rfl ?_
  refine zj_if_eq 238 228 X kd_M_exception_225 rfl rfl (fun _ => ?_) (fun _ => ?_)
  · exact j_M_exception_238 X K hK s15 l3 l4
  · refine zj_iload 230 2 X kd_M_exception_228 rfl rfl ?_
    refine zj_iconst 231 3 X kd_M_exception_230 ki_3 rfl ?_
    refine zj_icmp_le 238 234 X kd_M_exception_231 rfl rfl (fun _ => ?_) (fun _ => ?_)
    · exact j_M_exception_238 X K hK s15 l3 l4
    · refine zj_iconst 235 1 X kd_M_exception_234 ki_1 rfl ?_
      refine zj_goto 239 X kd_M_exception_235 rfl ?_
      exact j_M_exception_239 X K hK s15 l3 l4 1
theorem j_M_exception_189 {P : ZP} {E : ZE} {A : Nat → Prop} (X : ZX E (zmV P) A "FrameMachineModel" b_M_exception 11 none 3 75) (K : ZS → Int32 → Int32 → Int32 → Int32 → Option (ZS)) (hK : ∀ (s0 : ZS) (l3 : Int32) (l4 : Int32) (l5 : Int32) (l6 : Int32), ZJ E (zmV P) A 11 (zFv E (zmV P) A) 9 [(0, .ref (P.1 0)), (3, .int l3), (4, .int l4), (5, .int l5), (6, .int l6)] [] s0 (K s0 l3 l4 l5 l6)) (s0 : ZS) (l3 : Int32) (l4 : Int32) : ZJ E (zmV P) A 11 (zFv E (zmV P) A) 189 [(0, .ref (P.1 0)), (3, .int l3), (4, .int l4)] [] s0 (f_M_exception_189 K s0 l3 l4) := by
  unfold f_M_exception_189
  refine zj_aload_n 190 0 X kd_M_exception_189 rfl rfl rfl ?_
  refine zj_iconst 191 4 X kd_M_exception_190 ki_4 rfl ?_
  refine zj_iload 193 2 X kd_M_exception_191 rfl rfl ?_
  refine zj_imul 194 X kd_M_exception_193 rfl ?_
  refine zj_iconst 195 2 X kd_M_exception_194 ki_2 rfl ?_
  refine mc_M_106 198 X kd_M_exception_195 (Nat.le_of_ble_eq_true rfl) (Nat.le_of_ble_eq_true rfl) (Nat.le_of_ble_eq_true rfl) rfl (fun p13 => ?_)
  refine zj_l2i 199 X kd_M_exception_198 rfl ?_
  refine zj_nmi (fun v14 => ?_)
  refine zj_istore 201 [(10, .int v14), (0, .ref (P.1 0)), (3, .int l3), (4, .int l4)] X kd_M_exception_199 (Nat.le_of_ble_eq_true rfl) rfl rfl ?_
  refine zj_aload_n 202 1 X kd_M_exception_201 rfl rfl rfl ?_
  refine zj_aload_n 203 1 X kd_M_exception_202 rfl rfl rfl ?_
  refine gf_M_64 206 X kd_M_exception_203 rfl ?_
  refine zj_if_ne 214 209 X kd_M_exception_206 rfl rfl (fun _ => ?_) (fun _ => ?_)
  · refine zj_iload 211 0 X kd_M_exception_209 rfl rfl ?_
    refine zj_goto 218 X kd_M_exception_211 rfl ?_
    refine zj_loc [1, 2, 3] (L2 := [(0, .ref (P.1 0)), (3, .int l3), (4, .int l4)]) rfl ?_
    exact j_M_exception_218 X K hK p13.2 l3 l4 v14
  · refine zj_aload_n 215 1 X kd_M_exception_214 rfl rfl rfl ?_
    refine gf_M_103 218 X kd_M_exception_215 rfl ?_
    refine zj_loc [1, 2, 3] (L2 := [(0, .ref (P.1 0)), (3, .int l3), (4, .int l4)]) rfl ?_
    exact j_M_exception_218 X K hK p13.2 l3 l4 ((p13.2 0 2))
theorem j_M_exception_168 {P : ZP} {E : ZE} {A : Nat → Prop} (X : ZX E (zmV P) A "FrameMachineModel" b_M_exception 11 none 3 75) (K : ZS → Int32 → Int32 → Int32 → Int32 → Option (ZS)) (hK : ∀ (s0 : ZS) (l3 : Int32) (l4 : Int32) (l5 : Int32) (l6 : Int32), ZJ E (zmV P) A 11 (zFv E (zmV P) A) 9 [(0, .ref (P.1 0)), (3, .int l3), (4, .int l4), (5, .int l5), (6, .int l6)] [] s0 (K s0 l3 l4 l5 l6)) (s0 : ZS) (l3 : Int32) (l4 : Int32) (l8 : Int32) : ZJ E (zmV P) A 11 (zFv E (zmV P) A) 168 [(0, .ref (P.1 0)), (3, .int l3), (4, .int l4), (8, .int l8)] [] s0 (f_M_exception_168 K s0 l3 l4 l8) := by
  unfold f_M_exception_168
  refine zj_iload 170 2 X kd_M_exception_168 rfl rfl ?_
  refine zj_iconst 171 4 X kd_M_exception_170 ki_4 rfl ?_
  refine zj_icmp_ge 189 174 X kd_M_exception_171 rfl rfl (fun _ => ?_) (fun _ => ?_)
  · refine zj_loc [0, 1, 2] (L2 := [(0, .ref (P.1 0)), (3, .int l3), (4, .int l4)]) rfl ?_
    exact j_M_exception_189 X K hK s0 l3 l4
  · refine zj_aload_n 175 0 X kd_M_exception_174 rfl rfl rfl ?_
    refine gf_M_64 178 X kd_M_exception_175 rfl ?_
    refine zj_if_ne 189 181 X kd_M_exception_178 rfl rfl (fun _ => ?_) (fun _ => ?_)
    · refine zj_aload_n 182 0 X kd_M_exception_181 rfl rfl rfl ?_
      refine zj_iconst 183 1 X kd_M_exception_182 ki_1 rfl ?_
      refine zj_iload 185 3 X kd_M_exception_183 rfl rfl ?_
      refine zj_i2l 186 X kd_M_exception_185 rfl ?_
      refine mc_M_218 189 X kd_M_exception_186 (Nat.le_of_ble_eq_true rfl) (Nat.le_of_ble_eq_true rfl) (Nat.le_of_ble_eq_true rfl) rfl (fun s21 => ?_)
      refine zj_loc [0, 1, 2] (L2 := [(0, .ref (P.1 0)), (3, .int l3), (4, .int l4)]) rfl ?_
      exact j_M_exception_189 X K hK s21 l3 l4
    · refine zj_loc [0, 1, 2] (L2 := [(0, .ref (P.1 0)), (3, .int l3), (4, .int l4)]) rfl ?_
      exact j_M_exception_189 X K hK s0 l3 l4
theorem j_M_exception_143 {P : ZP} {E : ZE} {A : Nat → Prop} (X : ZX E (zmV P) A "FrameMachineModel" b_M_exception 11 none 3 75) (K : ZS → Int32 → Int32 → Int32 → Int32 → Option (ZS)) (hK : ∀ (s0 : ZS) (l3 : Int32) (l4 : Int32) (l5 : Int32) (l6 : Int32), ZJ E (zmV P) A 11 (zFv E (zmV P) A) 9 [(0, .ref (P.1 0)), (3, .int l3), (4, .int l4), (5, .int l5), (6, .int l6)] [] s0 (K s0 l3 l4 l5 l6)) (s0 : ZS) (l3 : Int32) (l4 : Int32) (l7 : Int32) (l8 : Int32) : ZJ E (zmV P) A 11 (zFv E (zmV P) A) 143 [(0, .ref (P.1 0)), (3, .int l3), (4, .int l4), (7, .int l7), (8, .int l8)] [] s0 (f_M_exception_143 K s0 l3 l4 l7 l8) := by
  unfold f_M_exception_143
  refine zj_iload 145 2 X kd_M_exception_143 rfl rfl ?_
  refine zj_iconst 146 4 X kd_M_exception_145 ki_4 rfl ?_
  refine zj_icmp_ge 168 149 X kd_M_exception_146 rfl rfl (fun _ => ?_) (fun _ => ?_)
  · refine zj_loc [0, 1, 2, 4] (L2 := [(0, .ref (P.1 0)), (3, .int l3), (4, .int l4), (8, .int l8)]) rfl ?_
    exact j_M_exception_168 X K hK s0 l3 l4 l8
  · refine zj_aload_n 150 0 X kd_M_exception_149 rfl rfl rfl ?_
    refine gf_M_64 153 X kd_M_exception_150 rfl ?_
    refine zj_if_ne 168 156 X kd_M_exception_153 rfl rfl (fun _ => ?_) (fun _ => ?_)
    · refine zj_aload_n 157 0 X kd_M_exception_156 rfl rfl rfl ?_
      refine zj_iconst 158 2 X kd_M_exception_157 ki_2 rfl ?_
      refine zj_iload 160 3 X kd_M_exception_158 rfl rfl ?_
      refine zj_i2l 161 X kd_M_exception_160 rfl ?_
      refine zj_ldc2 164 4294967295 X kd_M_exception_161 kw_911 rfl ?_
      refine zj_land 165 X kd_M_exception_164 rfl ?_
      refine mc_M_218 168 X kd_M_exception_165 (Nat.le_of_ble_eq_true rfl) (Nat.le_of_ble_eq_true rfl) (Nat.le_of_ble_eq_true rfl) rfl (fun s22 => ?_)
      refine zj_loc [0, 1, 2, 4] (L2 := [(0, .ref (P.1 0)), (3, .int l3), (4, .int l4), (8, .int l8)]) rfl ?_
      exact j_M_exception_168 X K hK s22 l3 l4 l8
    · refine zj_loc [0, 1, 2, 4] (L2 := [(0, .ref (P.1 0)), (3, .int l3), (4, .int l4), (8, .int l8)]) rfl ?_
      exact j_M_exception_168 X K hK s0 l3 l4 l8
theorem j_M_exception_120 {P : ZP} {E : ZE} {A : Nat → Prop} (X : ZX E (zmV P) A "FrameMachineModel" b_M_exception 11 none 3 75) (K : ZS → Int32 → Int32 → Int32 → Int32 → Option (ZS)) (hK : ∀ (s0 : ZS) (l3 : Int32) (l4 : Int32) (l5 : Int32) (l6 : Int32), ZJ E (zmV P) A 11 (zFv E (zmV P) A) 9 [(0, .ref (P.1 0)), (3, .int l3), (4, .int l4), (5, .int l5), (6, .int l6)] [] s0 (K s0 l3 l4 l5 l6)) (s0 : ZS) (l3 : Int32) (l4 : Int32) (l7 : Int32) (l8 : Int32) : ZJ E (zmV P) A 11 (zFv E (zmV P) A) 120 [(0, .ref (P.1 0)), (3, .int l3), (4, .int l4), (7, .int l7), (8, .int l8)] [] s0 (f_M_exception_120 K s0 l3 l4 l7 l8) := by
  unfold f_M_exception_120
  refine zj_iload 122 2 X kd_M_exception_120 rfl rfl ?_
  refine zj_iconst 123 4 X kd_M_exception_122 ki_4 rfl ?_
  refine zj_icmp_ge 143 126 X kd_M_exception_123 rfl rfl (fun _ => ?_) (fun _ => ?_)
  · exact j_M_exception_143 X K hK s0 l3 l4 l7 l8
  · refine zj_aload_n 127 0 X kd_M_exception_126 rfl rfl rfl ?_
    refine gf_M_64 130 X kd_M_exception_127 rfl ?_
    refine zj_if_ne 143 133 X kd_M_exception_130 rfl rfl (fun _ => ?_) (fun _ => ?_)
    · refine zj_aload_n 134 0 X kd_M_exception_133 rfl rfl rfl ?_
      refine zj_iconst 135 1 X kd_M_exception_134 ki_1 rfl ?_
      refine zj_aload_n 136 0 X kd_M_exception_135 rfl rfl rfl ?_
      refine gf_M_265 139 X kd_M_exception_136 rfl ?_
      refine zj_i2l 140 X kd_M_exception_139 rfl ?_
      refine mc_M_218 143 X kd_M_exception_140 (Nat.le_of_ble_eq_true rfl) (Nat.le_of_ble_eq_true rfl) (Nat.le_of_ble_eq_true rfl) rfl (fun s23 => ?_)
      exact j_M_exception_143 X K hK s23 l3 l4 l7 l8
    · exact j_M_exception_143 X K hK s0 l3 l4 l7 l8
theorem j_M_exception_90 {P : ZP} {E : ZE} {A : Nat → Prop} (X : ZX E (zmV P) A "FrameMachineModel" b_M_exception 11 none 3 75) (K : ZS → Int32 → Int32 → Int32 → Int32 → Option (ZS)) (hK : ∀ (s0 : ZS) (l3 : Int32) (l4 : Int32) (l5 : Int32) (l6 : Int32), ZJ E (zmV P) A 11 (zFv E (zmV P) A) 9 [(0, .ref (P.1 0)), (3, .int l3), (4, .int l4), (5, .int l5), (6, .int l6)] [] s0 (K s0 l3 l4 l5 l6)) (s0 : ZS) (l3 : Int32) (l4 : Int32) (l5 : Int32) (l7 : Int32) (l8 : Int32) (l9 : Int32) (t0 : Int32) : ZJ E (zmV P) A 11 (zFv E (zmV P) A) 90 [(0, .ref (P.1 0)), (3, .int l3), (4, .int l4), (5, .int l5), (7, .int l7), (8, .int l8), (9, .int l9)] [.int t0, .ref (P.1 0)] s0 (f_M_exception_90 K s0 l3 l4 l5 l7 l8 l9 t0) := by
  unfold f_M_exception_90
  refine pf_M_23 93 X kd_M_exception_90 rfl ?_
  refine zj_nms (fun s11 => ?_)
  refine zj_aload_n 94 0 X kd_M_exception_93 rfl rfl rfl ?_
  refine zj_iconst 95 2 X kd_M_exception_94 ki_2 rfl ?_
  refine zj_iload 97 3 X kd_M_exception_95 rfl rfl ?_
  refine zj_i2l 98 X kd_M_exception_97 rfl ?_
  refine zj_ldc2 101 4294967295 X kd_M_exception_98 kw_911 rfl ?_
  refine zj_land 102 X kd_M_exception_101 rfl ?_
  refine mc_M_218 105 X kd_M_exception_102 (Nat.le_of_ble_eq_true rfl) (Nat.le_of_ble_eq_true rfl) (Nat.le_of_ble_eq_true rfl) rfl (fun s12 => ?_)
  refine zj_aload_n 106 0 X kd_M_exception_105 rfl rfl rfl ?_
  refine gf_M_64 109 X kd_M_exception_106 rfl ?_
  refine zj_if_ne 120 112 X kd_M_exception_109 rfl rfl (fun _ => ?_) (fun _ => ?_)
  · refine zj_aload_n 113 0 X kd_M_exception_112 rfl rfl rfl ?_
    refine zj_iconst 114 1 X kd_M_exception_113 ki_1 rfl ?_
    refine zj_iload 116 6 X kd_M_exception_114 rfl rfl ?_
    refine zj_i2l 117 X kd_M_exception_116 rfl ?_
    refine mc_M_218 120 X kd_M_exception_117 (Nat.le_of_ble_eq_true rfl) (Nat.le_of_ble_eq_true rfl) (Nat.le_of_ble_eq_true rfl) rfl (fun s24 => ?_)
    refine zj_loc [0, 1, 2, 4, 5] (L2 := [(0, .ref (P.1 0)), (3, .int l3), (4, .int l4), (7, .int l7), (8, .int l8)]) rfl ?_
    exact j_M_exception_120 X K hK s24 l3 l4 l7 l8
  · refine zj_loc [0, 1, 2, 4, 5] (L2 := [(0, .ref (P.1 0)), (3, .int l3), (4, .int l4), (7, .int l7), (8, .int l8)]) rfl ?_
    exact j_M_exception_120 X K hK s12 l3 l4 l7 l8
theorem j_M_exception_82 {P : ZP} {E : ZE} {A : Nat → Prop} (X : ZX E (zmV P) A "FrameMachineModel" b_M_exception 11 none 3 75) (K : ZS → Int32 → Int32 → Int32 → Int32 → Option (ZS)) (hK : ∀ (s0 : ZS) (l3 : Int32) (l4 : Int32) (l5 : Int32) (l6 : Int32), ZJ E (zmV P) A 11 (zFv E (zmV P) A) 9 [(0, .ref (P.1 0)), (3, .int l3), (4, .int l4), (5, .int l5), (6, .int l6)] [] s0 (K s0 l3 l4 l5 l6)) (s0 : ZS) (l3 : Int32) (l4 : Int32) (l5 : Int32) (l7 : Int32) (l8 : Int32) (l9 : Int32) : ZJ E (zmV P) A 11 (zFv E (zmV P) A) 82 [(0, .ref (P.1 0)), (3, .int l3), (4, .int l4), (5, .int l5), (7, .int l7), (8, .int l8), (9, .int l9)] [.ref (P.1 0)] s0 (f_M_exception_82 K s0 l3 l4 l5 l7 l8 l9) := by
  unfold f_M_exception_82
  refine zj_aload_n 83 0 X kd_M_exception_82 rfl rfl rfl ?_
  refine gf_M_23 86 X kd_M_exception_83 rfl ?_
  refine zj_goto 90 X kd_M_exception_86 rfl ?_
  exact j_M_exception_90 X K hK s0 l3 l4 l5 l7 l8 l9 ((s0 0 5))
theorem j_M_exception_9 {P : ZP} {E : ZE} {A : Nat → Prop} (X : ZX E (zmV P) A "FrameMachineModel" b_M_exception 11 none 3 75) : ∀ (n : Nat) (s0 : ZS) (l3 : Int32) (l4 : Int32) (l5 : Int32) (l6 : Int32), ZJ E (zmV P) A 11 (zFv E (zmV P) A) 9 [(0, .ref (P.1 0)), (3, .int l3), (4, .int l4), (5, .int l5), (6, .int l6)] [] s0 (f_M_exception_9 n s0 l3 l4 l5 l6) := by
  intro n
  induction n with
  | zero => intro s0 l3 l4 l5 l6; rw [f_M_exception_9]; exact zj_none
  | succ n hK =>
    intro s0 l3 l4 l5 l6
    rw [f_M_exception_9]
    refine zj_iload 11 4 X kd_M_exception_9 rfl rfl ?_
    refine zj_if_eq 292 14 X kd_M_exception_11 rfl rfl (fun _ => ?_) (fun _ => ?_)
    · refine zj_aload_n 293 0 X kd_M_exception_292 rfl rfl rfl ?_
      refine zj_iconst 294 0 X kd_M_exception_293 ki_0 rfl ?_
      refine pf_M_64 297 X kd_M_exception_294 rfl ?_
      refine zj_nms (fun s1 => ?_)
      exact zj_vret X kd_M_exception_297
    · refine zj_aload_n 15 0 X kd_M_exception_14 rfl rfl rfl ?_
      refine zj_iload 17 2 X kd_M_exception_15 rfl rfl ?_
      refine pf_M_256 20 X kd_M_exception_17 rfl ?_
      refine zj_nms (fun s2 => ?_)
      refine zj_aload_n 21 0 X kd_M_exception_20 rfl rfl rfl ?_
      refine zj_dup 22 X kd_M_exception_21 rfl rfl ?_
      refine gf_M_259 25 X kd_M_exception_22 rfl ?_
      refine zj_iconst 26 1 X kd_M_exception_25 ki_1 rfl ?_
      refine zj_iadd 27 X kd_M_exception_26 rfl ?_
      refine pf_M_259 30 X kd_M_exception_27 rfl ?_
      refine zj_nms (fun s3 => ?_)
      refine zj_aload_n 31 0 X kd_M_exception_30 rfl rfl rfl ?_
      refine zj_iload 33 2 X kd_M_exception_31 rfl rfl ?_
      refine pf_M_262 36 X kd_M_exception_33 rfl ?_
      refine zj_nms (fun s4 => ?_)
      refine zj_aload_n 37 0 X kd_M_exception_36 rfl rfl rfl ?_
      refine gf_M_77 40 X kd_M_exception_37 rfl ?_
      refine zj_nmi (fun v5 => ?_)
      refine zj_istore 42 [(7, .int v5), (0, .ref (P.1 0)), (3, .int l3), (4, .int l4), (5, .int l5), (6, .int l6)] X kd_M_exception_40 (Nat.le_of_ble_eq_true rfl) rfl rfl ?_
      refine zj_aload_n 43 1 X kd_M_exception_42 rfl rfl rfl ?_
      refine gf_M_80 46 X kd_M_exception_43 rfl ?_
      refine zj_nmi (fun v6 => ?_)
      refine zj_istore 48 [(8, .int v6), (7, .int v5), (0, .ref (P.1 0)), (3, .int l3), (4, .int l4), (5, .int l5), (6, .int l6)] X kd_M_exception_46 (Nat.le_of_ble_eq_true rfl) rfl rfl ?_
      refine zj_aload_n 49 2 X kd_M_exception_48 rfl rfl rfl ?_
      refine zj_iconst 50 0 X kd_M_exception_49 ki_0 rfl ?_
      refine pf_M_64 53 X kd_M_exception_50 rfl ?_
      refine zj_nms (fun s7 => ?_)
      refine zj_aload_n 54 2 X kd_M_exception_53 rfl rfl rfl ?_
      refine mc_M_204 57 X kd_M_exception_54 (Nat.le_of_ble_eq_true rfl) (Nat.le_of_ble_eq_true rfl) (Nat.le_of_ble_eq_true rfl) rfl (fun p8 => ?_)
      refine zj_istore 59 [(9, .int p8.1), (8, .int v6), (7, .int v5), (0, .ref (P.1 0)), (3, .int l3), (4, .int l4), (5, .int l5), (6, .int l6)] X kd_M_exception_57 (Nat.le_of_ble_eq_true rfl) rfl rfl ?_
      refine zj_aload_n 60 3 X kd_M_exception_59 rfl rfl rfl ?_
      refine zj_iconst 61 1 X kd_M_exception_60 ki_1 rfl ?_
      refine mc_M_140 64 X kd_M_exception_61 (Nat.le_of_ble_eq_true rfl) (Nat.le_of_ble_eq_true rfl) (Nat.le_of_ble_eq_true rfl) rfl (fun s9 => ?_)
      refine zj_aload_n 65 3 X kd_M_exception_64 rfl rfl rfl ?_
      refine zj_iconst 66 0 X kd_M_exception_65 ki_0 rfl ?_
      refine pf_M_119 69 X kd_M_exception_66 rfl ?_
      refine zj_nms (fun s10 => ?_)
      refine zj_aload_n 70 3 X kd_M_exception_69 rfl rfl rfl ?_
      refine zj_iload_n 71 4 X kd_M_exception_70 rfl rfl rfl ?_
      refine zj_iconst 72 ((-1)) X kd_M_exception_71 ki_m1 rfl ?_
      refine zj_icmp_eq 82 75 X kd_M_exception_72 rfl rfl (fun _ => ?_) (fun _ => ?_)
      · refine zj_loc [3, 4, 5, 6, 2, 1, 0] (L2 := [(0, .ref (P.1 0)), (3, .int l3), (4, .int l4), (5, .int l5), (7, .int v5), (8, .int v6), (9, .int p8.1)]) rfl ?_
        exact j_M_exception_82 X (f_M_exception_9 n) hK s10 l3 l4 l5 v5 v6 p8.1
      · refine zj_iload 77 5 X kd_M_exception_75 rfl rfl ?_
        refine zj_bipush 79 9 X kd_M_exception_77 kb_9 rfl ?_
        refine zj_icmp_ge 89 82 X kd_M_exception_79 rfl rfl (fun _ => ?_) (fun _ => ?_)
        · refine zj_iload_n 90 4 X kd_M_exception_89 rfl rfl rfl ?_
          refine zj_loc [3, 4, 5, 6, 2, 1, 0] (L2 := [(0, .ref (P.1 0)), (3, .int l3), (4, .int l4), (5, .int l5), (7, .int v5), (8, .int v6), (9, .int p8.1)]) rfl ?_
          exact j_M_exception_90 X (f_M_exception_9 n) hK s10 l3 l4 l5 v5 v6 p8.1 l3
        · refine zj_loc [3, 4, 5, 6, 2, 1, 0] (L2 := [(0, .ref (P.1 0)), (3, .int l3), (4, .int l4), (5, .int l5), (7, .int v5), (8, .int v6), (9, .int p8.1)]) rfl ?_
          exact j_M_exception_82 X (f_M_exception_9 n) hK s10 l3 l4 l5 v5 v6 p8.1
theorem j_M_exception {P : ZP} {E : ZE} {A : Nat → Prop} (X : ZX E (zmV P) A "FrameMachineModel" b_M_exception 11 none 3 75) (s0 : ZS) (x1 : Int32) (x2 : Int32) (x3 : Int32) : ZJ E (zmV P) A 11 (zFv E (zmV P) A) 0 [(0, .ref (P.1 0)), (1, .int x1), (2, .int x2), (3, .int x3)] [] s0 (f_M_exception s0 x1 x2 x3) := by
  unfold f_M_exception
  refine zj_iload_n 1 1 X kd_M_exception_0 rfl rfl rfl ?_
  refine zj_istore 3 [(4, .int x1), (0, .ref (P.1 0)), (1, .int x1), (2, .int x2), (3, .int x3)] X kd_M_exception_1 (Nat.le_of_ble_eq_true rfl) rfl rfl ?_
  refine zj_iload_n 4 3 X kd_M_exception_3 rfl rfl rfl ?_
  refine zj_istore 6 [(5, .int x2), (4, .int x1), (0, .ref (P.1 0)), (1, .int x1), (2, .int x2), (3, .int x3)] X kd_M_exception_4 (Nat.le_of_ble_eq_true rfl) rfl rfl ?_
  refine zj_iconst 7 1 X kd_M_exception_6 ki_1 rfl ?_
  refine zj_istore 9 [(6, .int 1), (5, .int x2), (4, .int x1), (0, .ref (P.1 0)), (1, .int x1), (2, .int x2), (3, .int x3)] X kd_M_exception_7 (Nat.le_of_ble_eq_true rfl) rfl rfl ?_
  refine zj_loc [3, 6, 2, 1, 0] (L2 := [(0, .ref (P.1 0)), (3, .int x3), (4, .int x1), (5, .int x2), (6, .int 1)]) rfl ?_
  exact j_M_exception_9 X 20 s0 x3 x1 x2 1
theorem c_M_exception {l : Launch} {P : ZP} (hV : ZVok (zmV P)) (s0 : ZS) (x1 : Int32) (x2 : Int32) (x3 : Int32) {z : ZS} (h : f_M_exception s0 x1 x2 x3 = some z) : zMv l y_M_exception b_M_exception 11 none 3 75 (zmV P) s0 [.ref (P.1 0), .int x1, .int x2, .int x3] z :=
  zMv_of (by decide +kernel) rfl rfl (Nat.le_of_ble_eq_true rfl) hV (fun _ X => j_M_exception X s0 x1 x2 x3) h
theorem kc_M_272 : zCV "FrameMachineModel" 272 y_M_exception b_M_exception 11 none 3 := ⟨⟨kw_898, kw_900, ksel_31, kw_11, kw_901⟩, by decide +kernel, by decide +kernel, by decide +kernel⟩
theorem mc_M_272 {ρ : Type} {E : ZE} {P : ZP} {A : Nat → Prop} {cc : ByteArray} {nL : Nat} {ret : Option FieldType} {fr lo : Nat} {F : ρ → State → Prop} {pc : Nat} {L : List (Nat × Value)} {rest : List Value} {σ : ZS} {x1 : Int32} {x2 : Int32} {x3 : Int32} {K : ZS → Option ρ} (q : Nat) (X : ZX E (zmV P) A "FrameMachineModel" cc nL ret fr lo) (d : decode cc pc = .ok (.invokevirtual 272, 3)) (hfr : 3 + 1 ≤ fr) (hlo : 8 + (11 + 11) + 75 ≤ lo) (hr : (rest.map fun v => v.category).sum ≤ 8) (hq : pc + 3 = q) (kk : ∀ p : ZS, ZJ E (zmV P) A nL F q L (rest) p (K p)) : ZJ E (zmV P) A nL F pc L (.int x3 :: .int x2 :: .int x1 :: .ref (P.1 0) :: rest) σ ((f_M_exception σ x1 x2 x3).bind K) :=
  zj_cVv q 0 0 (As := [.int x1, .int x2, .int x3]) (rest := rest) X kc_M_272 hfr hlo (fun p h => c_M_exception (zx_v X) σ x1 x2 x3 h) rfl rfl rfl hr d hq kk
