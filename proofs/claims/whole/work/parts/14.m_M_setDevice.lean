-- FrameMachineModel.setDevice(II)V
theorem kd_M_setDevice_0 : decode b_M_setDevice 0 = .ok (.iload_n 1, 1) := by decide +kernel
theorem kd_M_setDevice_1 : decode b_M_setDevice 1 = .ok (.ifCond .ne 26, 3) := by decide +kernel
theorem kd_M_setDevice_4 : decode b_M_setDevice 4 = .ok (.aload_n 0, 1) := by decide +kernel
theorem kd_M_setDevice_5 : decode b_M_setDevice 5 = .ok (.iload_n 2, 1) := by decide +kernel
theorem kd_M_setDevice_6 : decode b_M_setDevice 6 = .ok (.putfield 55, 3) := by decide +kernel
theorem kd_M_setDevice_9 : decode b_M_setDevice 9 = .ok (.aload_n 0, 1) := by decide +kernel
theorem kd_M_setDevice_10 : decode b_M_setDevice 10 = .ok (.iload_n 2, 1) := by decide +kernel
theorem kd_M_setDevice_11 : decode b_M_setDevice 11 = .ok (.ifCond .ne 9, 3) := by decide +kernel
theorem kd_M_setDevice_14 : decode b_M_setDevice 14 = .ok (.sipush 256, 3) := by decide +kernel
theorem kd_M_setDevice_17 : decode b_M_setDevice 17 = .ok (.goto 4, 3) := by decide +kernel
theorem kd_M_setDevice_20 : decode b_M_setDevice 20 = .ok (.iload_n 2, 1) := by decide +kernel
theorem kd_M_setDevice_21 : decode b_M_setDevice 21 = .ok (.putfield 26, 3) := by decide +kernel
theorem kd_M_setDevice_24 : decode b_M_setDevice 24 = .ok (.goto 103, 3) := by decide +kernel
theorem kd_M_setDevice_27 : decode b_M_setDevice 27 = .ok (.iload_n 1, 1) := by decide +kernel
theorem kd_M_setDevice_28 : decode b_M_setDevice 28 = .ok (.iconst 1, 1) := by decide +kernel
theorem kd_M_setDevice_29 : decode b_M_setDevice 29 = .ok (.if_icmp .ne 44, 3) := by decide +kernel
theorem kd_M_setDevice_32 : decode b_M_setDevice 32 = .ok (.aload_n 0, 1) := by decide +kernel
theorem kd_M_setDevice_33 : decode b_M_setDevice 33 = .ok (.iload_n 2, 1) := by decide +kernel
theorem kd_M_setDevice_34 : decode b_M_setDevice 34 = .ok (.iconst 1, 1) := by decide +kernel
theorem kd_M_setDevice_35 : decode b_M_setDevice 35 = .ok (.iand, 1) := by decide +kernel
theorem kd_M_setDevice_36 : decode b_M_setDevice 36 = .ok (.iconst 1, 1) := by decide +kernel
theorem kd_M_setDevice_37 : decode b_M_setDevice 37 = .ok (.if_icmp .ne 7, 3) := by decide +kernel
theorem kd_M_setDevice_40 : decode b_M_setDevice 40 = .ok (.iconst 1, 1) := by decide +kernel
theorem kd_M_setDevice_41 : decode b_M_setDevice 41 = .ok (.goto 4, 3) := by decide +kernel
theorem kd_M_setDevice_44 : decode b_M_setDevice 44 = .ok (.iconst 0, 1) := by decide +kernel
theorem kd_M_setDevice_45 : decode b_M_setDevice 45 = .ok (.putfield 45, 3) := by decide +kernel
theorem kd_M_setDevice_48 : decode b_M_setDevice 48 = .ok (.aload_n 0, 1) := by decide +kernel
theorem kd_M_setDevice_49 : decode b_M_setDevice 49 = .ok (.aload_n 0, 1) := by decide +kernel
theorem kd_M_setDevice_50 : decode b_M_setDevice 50 = .ok (.getfield 49, 3) := by decide +kernel
theorem kd_M_setDevice_53 : decode b_M_setDevice 53 = .ok (.ifCond .eq 13, 3) := by decide +kernel
theorem kd_M_setDevice_56 : decode b_M_setDevice 56 = .ok (.iload_n 2, 1) := by decide +kernel
theorem kd_M_setDevice_57 : decode b_M_setDevice 57 = .ok (.iconst 2, 1) := by decide +kernel
theorem kd_M_setDevice_58 : decode b_M_setDevice 58 = .ok (.iand, 1) := by decide +kernel
theorem kd_M_setDevice_59 : decode b_M_setDevice 59 = .ok (.ifCond .ne 7, 3) := by decide +kernel
theorem kd_M_setDevice_62 : decode b_M_setDevice 62 = .ok (.iconst 1, 1) := by decide +kernel
theorem kd_M_setDevice_63 : decode b_M_setDevice 63 = .ok (.goto 4, 3) := by decide +kernel
theorem kd_M_setDevice_66 : decode b_M_setDevice 66 = .ok (.iconst 0, 1) := by decide +kernel
theorem kd_M_setDevice_67 : decode b_M_setDevice 67 = .ok (.putfield 49, 3) := by decide +kernel
theorem kd_M_setDevice_70 : decode b_M_setDevice 70 = .ok (.goto 57, 3) := by decide +kernel
theorem kd_M_setDevice_73 : decode b_M_setDevice 73 = .ok (.iload_n 1, 1) := by decide +kernel
theorem kd_M_setDevice_74 : decode b_M_setDevice 74 = .ok (.iconst 2, 1) := by decide +kernel
theorem kd_M_setDevice_75 : decode b_M_setDevice 75 = .ok (.if_icmp .ne 25, 3) := by decide +kernel
theorem kd_M_setDevice_78 : decode b_M_setDevice 78 = .ok (.aload_n 0, 1) := by decide +kernel
theorem kd_M_setDevice_79 : decode b_M_setDevice 79 = .ok (.getfield 32, 3) := by decide +kernel
theorem kd_M_setDevice_82 : decode b_M_setDevice 82 = .ok (.iconst (-1), 1) := by decide +kernel
theorem kd_M_setDevice_83 : decode b_M_setDevice 83 = .ok (.if_icmp .ne 17, 3) := by decide +kernel
theorem kd_M_setDevice_86 : decode b_M_setDevice 86 = .ok (.aload_n 0, 1) := by decide +kernel
theorem kd_M_setDevice_87 : decode b_M_setDevice 87 = .ok (.iload_n 2, 1) := by decide +kernel
theorem kd_M_setDevice_88 : decode b_M_setDevice 88 = .ok (.putfield 32, 3) := by decide +kernel
theorem kd_M_setDevice_91 : decode b_M_setDevice 91 = .ok (.aload_n 0, 1) := by decide +kernel
theorem kd_M_setDevice_92 : decode b_M_setDevice 92 = .ok (.bipush 8, 2) := by decide +kernel
theorem kd_M_setDevice_94 : decode b_M_setDevice 94 = .ok (.putfield 58, 3) := by decide +kernel
theorem kd_M_setDevice_97 : decode b_M_setDevice 97 = .ok (.goto 30, 3) := by decide +kernel
theorem kd_M_setDevice_100 : decode b_M_setDevice 100 = .ok (.iload_n 1, 1) := by decide +kernel
theorem kd_M_setDevice_101 : decode b_M_setDevice 101 = .ok (.iconst 3, 1) := by decide +kernel
theorem kd_M_setDevice_102 : decode b_M_setDevice 102 = .ok (.if_icmp .ne 25, 3) := by decide +kernel
theorem kd_M_setDevice_105 : decode b_M_setDevice 105 = .ok (.aload_n 0, 1) := by decide +kernel
theorem kd_M_setDevice_106 : decode b_M_setDevice 106 = .ok (.aload_n 0, 1) := by decide +kernel
theorem kd_M_setDevice_107 : decode b_M_setDevice 107 = .ok (.getfield 52, 3) := by decide +kernel
theorem kd_M_setDevice_110 : decode b_M_setDevice 110 = .ok (.ifCond .eq 13, 3) := by decide +kernel
theorem kd_M_setDevice_113 : decode b_M_setDevice 113 = .ok (.iload_n 2, 1) := by decide +kernel
theorem kd_M_setDevice_114 : decode b_M_setDevice 114 = .ok (.iconst 2, 1) := by decide +kernel
theorem kd_M_setDevice_115 : decode b_M_setDevice 115 = .ok (.iand, 1) := by decide +kernel
theorem kd_M_setDevice_116 : decode b_M_setDevice 116 = .ok (.ifCond .ne 7, 3) := by decide +kernel
theorem kd_M_setDevice_119 : decode b_M_setDevice 119 = .ok (.iconst 1, 1) := by decide +kernel
theorem kd_M_setDevice_120 : decode b_M_setDevice 120 = .ok (.goto 4, 3) := by decide +kernel
theorem kd_M_setDevice_123 : decode b_M_setDevice 123 = .ok (.iconst 0, 1) := by decide +kernel
theorem kd_M_setDevice_124 : decode b_M_setDevice 124 = .ok (.putfield 52, 3) := by decide +kernel
theorem kd_M_setDevice_127 : decode b_M_setDevice 127 = .ok (.return_, 1) := by decide +kernel
noncomputable def f_M_setDevice_124 (s0 : ZS) (t0 : Int32) : Option (ZS) :=
  if ¬ (t0 = 0 ∨ t0 = 1) then none else
  zs_nm (zs_up s0 0 27 t0) fun s1 =>
  some s1
noncomputable def f_M_setDevice_123 (s0 : ZS)  : Option (ZS) :=
  f_M_setDevice_124 s0 0
noncomputable def f_M_setDevice_100 (s0 : ZS) (l1 : Int32) (l2 : Int32) : Option (ZS) :=
  if l1 = 3 then
    if (s0 0 27) = 0 then
      f_M_setDevice_123 s0
    else
      if (l2 &&& 2) = 0 then
        f_M_setDevice_124 s0 1
      else
        f_M_setDevice_123 s0
  else
    some s0
noncomputable def f_M_setDevice_67 (s0 : ZS) (t0 : Int32) : Option (ZS) :=
  if ¬ (t0 = 0 ∨ t0 = 1) then none else
  zs_nm (zs_up s0 0 25 t0) fun s5 =>
  some s5
noncomputable def f_M_setDevice_66 (s0 : ZS)  : Option (ZS) :=
  f_M_setDevice_67 s0 0
noncomputable def f_M_setDevice_45 (s0 : ZS) (l2 : Int32) (t0 : Int32) : Option (ZS) :=
  if ¬ (t0 = 0 ∨ t0 = 1) then none else
  zs_nm (zs_up s0 0 24 t0) fun s4 =>
  if (s4 0 25) = 0 then
    f_M_setDevice_66 s4
  else
    if (l2 &&& 2) = 0 then
      f_M_setDevice_67 s4 1
    else
      f_M_setDevice_66 s4
noncomputable def f_M_setDevice_21 (s0 : ZS) (t0 : Int32) : Option (ZS) :=
  zs_nm (zs_up s0 0 22 t0) fun s7 =>
  some s7
noncomputable def f_M_setDevice (s0 : ZS) (x1 : Int32) (x2 : Int32) : Option (ZS) :=
  if x1 = 0 then
    zs_nm (zs_up s0 0 23 x2) fun s6 =>
    if x2 = 0 then
      f_M_setDevice_21 s6 256
    else
      f_M_setDevice_21 s6 x2
  else
    if x1 = 1 then
      if (x2 &&& 1) = 1 then
        f_M_setDevice_45 s0 x2 1
      else
        f_M_setDevice_45 s0 x2 0
    else
      if x1 = 2 then
        if (s0 0 28) = ((-1)) then
          zs_nm (zs_up s0 0 28 x2) fun s2 =>
          zs_nm (zs_up s2 0 29 8) fun s3 =>
          some s3
        else
          f_M_setDevice_100 s0 x1 x2
      else
        f_M_setDevice_100 s0 x1 x2
theorem j_M_setDevice_124 {P : ZP} {E : ZE} {A : Nat → Prop} (X : ZX E (zmV P) A "FrameMachineModel" b_M_setDevice 3 none 0 0) (s0 : ZS) (t0 : Int32) : ZJ E (zmV P) A 3 (zFv E (zmV P) A) 124 [] [.int t0, .ref (P.1 0)] s0 (f_M_setDevice_124 s0 t0) := by
  unfold f_M_setDevice_124
  refine zj_ng (fun hg => ?_)
  refine pf_M_52 127 X kd_M_setDevice_124 (Decidable.not_not.mp hg) rfl ?_
  refine zj_nms (fun s1 => ?_)
  exact zj_vret X kd_M_setDevice_127
theorem j_M_setDevice_123 {P : ZP} {E : ZE} {A : Nat → Prop} (X : ZX E (zmV P) A "FrameMachineModel" b_M_setDevice 3 none 0 0) (s0 : ZS)  : ZJ E (zmV P) A 3 (zFv E (zmV P) A) 123 [] [.ref (P.1 0)] s0 (f_M_setDevice_123 s0) := by
  unfold f_M_setDevice_123
  refine zj_iconst 124 0 X kd_M_setDevice_123 ki_0 rfl ?_
  exact j_M_setDevice_124 X s0 0
theorem j_M_setDevice_100 {P : ZP} {E : ZE} {A : Nat → Prop} (X : ZX E (zmV P) A "FrameMachineModel" b_M_setDevice 3 none 0 0) (s0 : ZS) (l1 : Int32) (l2 : Int32) : ZJ E (zmV P) A 3 (zFv E (zmV P) A) 100 [(0, .ref (P.1 0)), (1, .int l1), (2, .int l2)] [] s0 (f_M_setDevice_100 s0 l1 l2) := by
  unfold f_M_setDevice_100
  refine zj_iload_n 101 1 X kd_M_setDevice_100 rfl rfl rfl ?_
  refine zj_iconst 102 3 X kd_M_setDevice_101 ki_3 rfl ?_
  refine zj_icmp_ne 127 105 X kd_M_setDevice_102 rfl rfl (fun _ => ?_) (fun _ => ?_)
  · refine zj_aload_n 106 0 X kd_M_setDevice_105 rfl rfl rfl ?_
    refine zj_aload_n 107 0 X kd_M_setDevice_106 rfl rfl rfl ?_
    refine gf_M_52 110 X kd_M_setDevice_107 rfl ?_
    refine zj_if_eq 123 113 X kd_M_setDevice_110 rfl rfl (fun _ => ?_) (fun _ => ?_)
    · refine zj_loc [] (L2 := []) rfl ?_
      exact j_M_setDevice_123 X s0
    · refine zj_iload_n 114 2 X kd_M_setDevice_113 rfl rfl rfl ?_
      refine zj_iconst 115 2 X kd_M_setDevice_114 ki_2 rfl ?_
      refine zj_iand 116 X kd_M_setDevice_115 rfl ?_
      refine zj_if_ne 123 119 X kd_M_setDevice_116 rfl rfl (fun _ => ?_) (fun _ => ?_)
      · refine zj_iconst 120 1 X kd_M_setDevice_119 ki_1 rfl ?_
        refine zj_goto 124 X kd_M_setDevice_120 rfl ?_
        refine zj_loc [] (L2 := []) rfl ?_
        exact j_M_setDevice_124 X s0 1
      · refine zj_loc [] (L2 := []) rfl ?_
        exact j_M_setDevice_123 X s0
  · exact zj_vret X kd_M_setDevice_127
theorem j_M_setDevice_67 {P : ZP} {E : ZE} {A : Nat → Prop} (X : ZX E (zmV P) A "FrameMachineModel" b_M_setDevice 3 none 0 0) (s0 : ZS) (t0 : Int32) : ZJ E (zmV P) A 3 (zFv E (zmV P) A) 67 [] [.int t0, .ref (P.1 0)] s0 (f_M_setDevice_67 s0 t0) := by
  unfold f_M_setDevice_67
  refine zj_ng (fun hg => ?_)
  refine pf_M_49 70 X kd_M_setDevice_67 (Decidable.not_not.mp hg) rfl ?_
  refine zj_nms (fun s5 => ?_)
  refine zj_goto 127 X kd_M_setDevice_70 rfl ?_
  exact zj_vret X kd_M_setDevice_127
theorem j_M_setDevice_66 {P : ZP} {E : ZE} {A : Nat → Prop} (X : ZX E (zmV P) A "FrameMachineModel" b_M_setDevice 3 none 0 0) (s0 : ZS)  : ZJ E (zmV P) A 3 (zFv E (zmV P) A) 66 [] [.ref (P.1 0)] s0 (f_M_setDevice_66 s0) := by
  unfold f_M_setDevice_66
  refine zj_iconst 67 0 X kd_M_setDevice_66 ki_0 rfl ?_
  exact j_M_setDevice_67 X s0 0
theorem j_M_setDevice_45 {P : ZP} {E : ZE} {A : Nat → Prop} (X : ZX E (zmV P) A "FrameMachineModel" b_M_setDevice 3 none 0 0) (s0 : ZS) (l2 : Int32) (t0 : Int32) : ZJ E (zmV P) A 3 (zFv E (zmV P) A) 45 [(0, .ref (P.1 0)), (2, .int l2)] [.int t0, .ref (P.1 0)] s0 (f_M_setDevice_45 s0 l2 t0) := by
  unfold f_M_setDevice_45
  refine zj_ng (fun hg => ?_)
  refine pf_M_45 48 X kd_M_setDevice_45 (Decidable.not_not.mp hg) rfl ?_
  refine zj_nms (fun s4 => ?_)
  refine zj_aload_n 49 0 X kd_M_setDevice_48 rfl rfl rfl ?_
  refine zj_aload_n 50 0 X kd_M_setDevice_49 rfl rfl rfl ?_
  refine gf_M_49 53 X kd_M_setDevice_50 rfl ?_
  refine zj_if_eq 66 56 X kd_M_setDevice_53 rfl rfl (fun _ => ?_) (fun _ => ?_)
  · refine zj_loc [] (L2 := []) rfl ?_
    exact j_M_setDevice_66 X s4
  · refine zj_iload_n 57 1 X kd_M_setDevice_56 rfl rfl rfl ?_
    refine zj_iconst 58 2 X kd_M_setDevice_57 ki_2 rfl ?_
    refine zj_iand 59 X kd_M_setDevice_58 rfl ?_
    refine zj_if_ne 66 62 X kd_M_setDevice_59 rfl rfl (fun _ => ?_) (fun _ => ?_)
    · refine zj_iconst 63 1 X kd_M_setDevice_62 ki_1 rfl ?_
      refine zj_goto 67 X kd_M_setDevice_63 rfl ?_
      refine zj_loc [] (L2 := []) rfl ?_
      exact j_M_setDevice_67 X s4 1
    · refine zj_loc [] (L2 := []) rfl ?_
      exact j_M_setDevice_66 X s4
theorem j_M_setDevice_21 {P : ZP} {E : ZE} {A : Nat → Prop} (X : ZX E (zmV P) A "FrameMachineModel" b_M_setDevice 3 none 0 0) (s0 : ZS) (t0 : Int32) : ZJ E (zmV P) A 3 (zFv E (zmV P) A) 21 [] [.int t0, .ref (P.1 0)] s0 (f_M_setDevice_21 s0 t0) := by
  unfold f_M_setDevice_21
  refine pf_M_26 24 X kd_M_setDevice_21 rfl ?_
  refine zj_nms (fun s7 => ?_)
  refine zj_goto 127 X kd_M_setDevice_24 rfl ?_
  exact zj_vret X kd_M_setDevice_127
theorem j_M_setDevice {P : ZP} {E : ZE} {A : Nat → Prop} (X : ZX E (zmV P) A "FrameMachineModel" b_M_setDevice 3 none 0 0) (s0 : ZS) (x1 : Int32) (x2 : Int32) : ZJ E (zmV P) A 3 (zFv E (zmV P) A) 0 [(0, .ref (P.1 0)), (1, .int x1), (2, .int x2)] [] s0 (f_M_setDevice s0 x1 x2) := by
  unfold f_M_setDevice
  refine zj_iload_n 1 1 X kd_M_setDevice_0 rfl rfl rfl ?_
  refine zj_if_ne 27 4 X kd_M_setDevice_1 rfl rfl (fun _ => ?_) (fun _ => ?_)
  · refine zj_aload_n 5 0 X kd_M_setDevice_4 rfl rfl rfl ?_
    refine zj_iload_n 6 2 X kd_M_setDevice_5 rfl rfl rfl ?_
    refine pf_M_55 9 X kd_M_setDevice_6 rfl ?_
    refine zj_nms (fun s6 => ?_)
    refine zj_aload_n 10 0 X kd_M_setDevice_9 rfl rfl rfl ?_
    refine zj_iload_n 11 2 X kd_M_setDevice_10 rfl rfl rfl ?_
    refine zj_if_ne 20 14 X kd_M_setDevice_11 rfl rfl (fun _ => ?_) (fun _ => ?_)
    · refine zj_sipush 17 256 X kd_M_setDevice_14 ks_256 rfl ?_
      refine zj_goto 21 X kd_M_setDevice_17 rfl ?_
      refine zj_loc [] (L2 := []) rfl ?_
      exact j_M_setDevice_21 X s6 256
    · refine zj_iload_n 21 2 X kd_M_setDevice_20 rfl rfl rfl ?_
      refine zj_loc [] (L2 := []) rfl ?_
      exact j_M_setDevice_21 X s6 x2
  · refine zj_iload_n 28 1 X kd_M_setDevice_27 rfl rfl rfl ?_
    refine zj_iconst 29 1 X kd_M_setDevice_28 ki_1 rfl ?_
    refine zj_icmp_ne 73 32 X kd_M_setDevice_29 rfl rfl (fun _ => ?_) (fun _ => ?_)
    · refine zj_aload_n 33 0 X kd_M_setDevice_32 rfl rfl rfl ?_
      refine zj_iload_n 34 2 X kd_M_setDevice_33 rfl rfl rfl ?_
      refine zj_iconst 35 1 X kd_M_setDevice_34 ki_1 rfl ?_
      refine zj_iand 36 X kd_M_setDevice_35 rfl ?_
      refine zj_iconst 37 1 X kd_M_setDevice_36 ki_1 rfl ?_
      refine zj_icmp_ne 44 40 X kd_M_setDevice_37 rfl rfl (fun _ => ?_) (fun _ => ?_)
      · refine zj_iconst 41 1 X kd_M_setDevice_40 ki_1 rfl ?_
        refine zj_goto 45 X kd_M_setDevice_41 rfl ?_
        refine zj_loc [0, 2] (L2 := [(0, .ref (P.1 0)), (2, .int x2)]) rfl ?_
        exact j_M_setDevice_45 X s0 x2 1
      · refine zj_iconst 45 0 X kd_M_setDevice_44 ki_0 rfl ?_
        refine zj_loc [0, 2] (L2 := [(0, .ref (P.1 0)), (2, .int x2)]) rfl ?_
        exact j_M_setDevice_45 X s0 x2 0
    · refine zj_iload_n 74 1 X kd_M_setDevice_73 rfl rfl rfl ?_
      refine zj_iconst 75 2 X kd_M_setDevice_74 ki_2 rfl ?_
      refine zj_icmp_ne 100 78 X kd_M_setDevice_75 rfl rfl (fun _ => ?_) (fun _ => ?_)
      · refine zj_aload_n 79 0 X kd_M_setDevice_78 rfl rfl rfl ?_
        refine gf_M_32 82 X kd_M_setDevice_79 rfl ?_
        refine zj_iconst 83 ((-1)) X kd_M_setDevice_82 ki_m1 rfl ?_
        refine zj_icmp_ne 100 86 X kd_M_setDevice_83 rfl rfl (fun _ => ?_) (fun _ => ?_)
        · refine zj_aload_n 87 0 X kd_M_setDevice_86 rfl rfl rfl ?_
          refine zj_iload_n 88 2 X kd_M_setDevice_87 rfl rfl rfl ?_
          refine pf_M_32 91 X kd_M_setDevice_88 rfl ?_
          refine zj_nms (fun s2 => ?_)
          refine zj_aload_n 92 0 X kd_M_setDevice_91 rfl rfl rfl ?_
          refine zj_bipush 94 8 X kd_M_setDevice_92 kb_8 rfl ?_
          refine pf_M_58 97 X kd_M_setDevice_94 rfl ?_
          refine zj_nms (fun s3 => ?_)
          refine zj_goto 127 X kd_M_setDevice_97 rfl ?_
          exact zj_vret X kd_M_setDevice_127
        · exact j_M_setDevice_100 X s0 x1 x2
      · exact j_M_setDevice_100 X s0 x1 x2
theorem c_M_setDevice {l : Launch} {P : ZP} (hV : ZVok (zmV P)) (s0 : ZS) (x1 : Int32) (x2 : Int32) {z : ZS} (h : f_M_setDevice s0 x1 x2 = some z) : zMv l y_M_setDevice b_M_setDevice 3 none 0 0 (zmV P) s0 [.ref (P.1 0), .int x1, .int x2] z :=
  zMv_of (by decide +kernel) rfl rfl (Nat.le_of_ble_eq_true rfl) hV (fun _ X => j_M_setDevice X s0 x1 x2) h
theorem kc_M_99 : zCV "FrameMachineModel" 99 y_M_setDevice b_M_setDevice 3 none 2 := ⟨⟨kw_933, kw_935, ksel_37, kw_11, kw_936⟩, by decide +kernel, by decide +kernel, by decide +kernel⟩
theorem mc_M_99 {ρ : Type} {E : ZE} {P : ZP} {A : Nat → Prop} {cc : ByteArray} {nL : Nat} {ret : Option FieldType} {fr lo : Nat} {F : ρ → State → Prop} {pc : Nat} {L : List (Nat × Value)} {rest : List Value} {σ : ZS} {x1 : Int32} {x2 : Int32} {K : ZS → Option ρ} (q : Nat) (X : ZX E (zmV P) A "FrameMachineModel" cc nL ret fr lo) (d : decode cc pc = .ok (.invokevirtual 99, 3)) (hfr : 0 + 1 ≤ fr) (hlo : 8 + (3 + 11) + 0 ≤ lo) (hr : (rest.map fun v => v.category).sum ≤ 8) (hq : pc + 3 = q) (kk : ∀ p : ZS, ZJ E (zmV P) A nL F q L (rest) p (K p)) : ZJ E (zmV P) A nL F pc L (.int x2 :: .int x1 :: .ref (P.1 0) :: rest) σ ((f_M_setDevice σ x1 x2).bind K) :=
  zj_cVv q 0 0 (As := [.int x1, .int x2]) (rest := rest) X kc_M_99 hfr hlo (fun p h => c_M_setDevice (zx_v X) σ x1 x2 h) rfl rfl rfl hr d hq kk
-- FrameMachineModel.devices()V
theorem kd_M_devices_0 : decode b_M_devices 0 = .ok (.aload_n 0, 1) := by decide +kernel
theorem kd_M_devices_1 : decode b_M_devices 1 = .ok (.getfield 45, 3) := by decide +kernel
theorem kd_M_devices_4 : decode b_M_devices 4 = .ok (.ifCond .eq 46, 3) := by decide +kernel
theorem kd_M_devices_7 : decode b_M_devices 7 = .ok (.aload_n 0, 1) := by decide +kernel
theorem kd_M_devices_8 : decode b_M_devices 8 = .ok (.dup, 1) := by decide +kernel
theorem kd_M_devices_9 : decode b_M_devices 9 = .ok (.getfield 26, 3) := by decide +kernel
theorem kd_M_devices_12 : decode b_M_devices 12 = .ok (.iconst 1, 1) := by decide +kernel
theorem kd_M_devices_13 : decode b_M_devices 13 = .ok (.isub, 1) := by decide +kernel
theorem kd_M_devices_14 : decode b_M_devices 14 = .ok (.putfield 26, 3) := by decide +kernel
theorem kd_M_devices_17 : decode b_M_devices 17 = .ok (.aload_n 0, 1) := by decide +kernel
theorem kd_M_devices_18 : decode b_M_devices 18 = .ok (.getfield 26, 3) := by decide +kernel
theorem kd_M_devices_21 : decode b_M_devices 21 = .ok (.ifCond .ne 29, 3) := by decide +kernel
theorem kd_M_devices_24 : decode b_M_devices 24 = .ok (.aload_n 0, 1) := by decide +kernel
theorem kd_M_devices_25 : decode b_M_devices 25 = .ok (.iconst 1, 1) := by decide +kernel
theorem kd_M_devices_26 : decode b_M_devices 26 = .ok (.putfield 49, 3) := by decide +kernel
theorem kd_M_devices_29 : decode b_M_devices 29 = .ok (.aload_n 0, 1) := by decide +kernel
theorem kd_M_devices_30 : decode b_M_devices 30 = .ok (.aload_n 0, 1) := by decide +kernel
theorem kd_M_devices_31 : decode b_M_devices 31 = .ok (.getfield 55, 3) := by decide +kernel
theorem kd_M_devices_34 : decode b_M_devices 34 = .ok (.ifCond .ne 9, 3) := by decide +kernel
theorem kd_M_devices_37 : decode b_M_devices 37 = .ok (.sipush 256, 3) := by decide +kernel
theorem kd_M_devices_40 : decode b_M_devices 40 = .ok (.goto 7, 3) := by decide +kernel
theorem kd_M_devices_43 : decode b_M_devices 43 = .ok (.aload_n 0, 1) := by decide +kernel
theorem kd_M_devices_44 : decode b_M_devices 44 = .ok (.getfield 55, 3) := by decide +kernel
theorem kd_M_devices_47 : decode b_M_devices 47 = .ok (.putfield 26, 3) := by decide +kernel
theorem kd_M_devices_50 : decode b_M_devices 50 = .ok (.aload_n 0, 1) := by decide +kernel
theorem kd_M_devices_51 : decode b_M_devices 51 = .ok (.getfield 32, 3) := by decide +kernel
theorem kd_M_devices_54 : decode b_M_devices 54 = .ok (.iconst (-1), 1) := by decide +kernel
theorem kd_M_devices_55 : decode b_M_devices 55 = .ok (.if_icmp .eq 51, 3) := by decide +kernel
theorem kd_M_devices_58 : decode b_M_devices 58 = .ok (.aload_n 0, 1) := by decide +kernel
theorem kd_M_devices_59 : decode b_M_devices 59 = .ok (.dup, 1) := by decide +kernel
theorem kd_M_devices_60 : decode b_M_devices 60 = .ok (.getfield 58, 3) := by decide +kernel
theorem kd_M_devices_63 : decode b_M_devices 63 = .ok (.iconst 1, 1) := by decide +kernel
theorem kd_M_devices_64 : decode b_M_devices 64 = .ok (.isub, 1) := by decide +kernel
theorem kd_M_devices_65 : decode b_M_devices 65 = .ok (.putfield 58, 3) := by decide +kernel
theorem kd_M_devices_68 : decode b_M_devices 68 = .ok (.aload_n 0, 1) := by decide +kernel
theorem kd_M_devices_69 : decode b_M_devices 69 = .ok (.getfield 58, 3) := by decide +kernel
theorem kd_M_devices_72 : decode b_M_devices 72 = .ok (.ifCond .ne 34, 3) := by decide +kernel
theorem kd_M_devices_75 : decode b_M_devices 75 = .ok (.aload_n 0, 1) := by decide +kernel
theorem kd_M_devices_76 : decode b_M_devices 76 = .ok (.getfield 35, 3) := by decide +kernel
theorem kd_M_devices_79 : decode b_M_devices 79 = .ok (.aload_n 0, 1) := by decide +kernel
theorem kd_M_devices_80 : decode b_M_devices 80 = .ok (.getfield 61, 3) := by decide +kernel
theorem kd_M_devices_83 : decode b_M_devices 83 = .ok (.bipush 16, 2) := by decide +kernel
theorem kd_M_devices_85 : decode b_M_devices 85 = .ok (.irem, 1) := by decide +kernel
theorem kd_M_devices_86 : decode b_M_devices 86 = .ok (.aload_n 0, 1) := by decide +kernel
theorem kd_M_devices_87 : decode b_M_devices 87 = .ok (.getfield 32, 3) := by decide +kernel
theorem kd_M_devices_90 : decode b_M_devices 90 = .ok (.iastore, 1) := by decide +kernel
theorem kd_M_devices_91 : decode b_M_devices 91 = .ok (.aload_n 0, 1) := by decide +kernel
theorem kd_M_devices_92 : decode b_M_devices 92 = .ok (.dup, 1) := by decide +kernel
theorem kd_M_devices_93 : decode b_M_devices 93 = .ok (.getfield 61, 3) := by decide +kernel
theorem kd_M_devices_96 : decode b_M_devices 96 = .ok (.iconst 1, 1) := by decide +kernel
theorem kd_M_devices_97 : decode b_M_devices 97 = .ok (.iadd, 1) := by decide +kernel
theorem kd_M_devices_98 : decode b_M_devices 98 = .ok (.putfield 61, 3) := by decide +kernel
theorem kd_M_devices_101 : decode b_M_devices 101 = .ok (.aload_n 0, 1) := by decide +kernel
theorem kd_M_devices_102 : decode b_M_devices 102 = .ok (.iconst (-1), 1) := by decide +kernel
theorem kd_M_devices_103 : decode b_M_devices 103 = .ok (.putfield 32, 3) := by decide +kernel
theorem kd_M_devices_106 : decode b_M_devices 106 = .ok (.return_, 1) := by decide +kernel
noncomputable def f_M_devices_50 (s0 : ZS)  : Option (ZS) :=
  if (s0 0 28) = ((-1)) then
    some s0
  else
    zs_nm (zs_up s0 0 29 ((s0 0 29) - 1)) fun s1 =>
    if (s1 0 29) = 0 then
      if (zo_irem (s1 0 30) 16) < 0 ∨ 16 ≤ (zo_irem (s1 0 30) 16).toNatClampNeg then none else
      zs_nm (zs_up s1 4 (zo_irem (s1 0 30) 16).toNatClampNeg (s1 0 28)) fun s2 =>
      zs_nm (zs_up s2 0 30 ((s2 0 30) + 1)) fun s3 =>
      zs_nm (zs_up s3 0 28 ((-1))) fun s4 =>
      some s4
    else
      some s1
noncomputable def f_M_devices_47 (s0 : ZS) (t0 : Int32) : Option (ZS) :=
  zs_nm (zs_up s0 0 22 t0) fun s7 =>
  f_M_devices_50 s7
noncomputable def f_M_devices (s0 : ZS)  : Option (ZS) :=
  if (s0 0 24) = 0 then
    f_M_devices_50 s0
  else
    zs_nm (zs_up s0 0 22 ((s0 0 22) - 1)) fun s5 =>
    if (s5 0 22) = 0 then
      zs_nm (zs_up s5 0 25 1) fun s6 =>
      if (s6 0 23) = 0 then
        f_M_devices_47 s6 256
      else
        f_M_devices_47 s6 ((s6 0 23))
    else
      f_M_devices_50 s5
theorem j_M_devices_50 {P : ZP} {E : ZE} {A : Nat → Prop} (X : ZX E (zmV P) A "FrameMachineModel" b_M_devices 1 none 0 0) (s0 : ZS)  : ZJ E (zmV P) A 1 (zFv E (zmV P) A) 50 [(0, .ref (P.1 0))] [] s0 (f_M_devices_50 s0) := by
  unfold f_M_devices_50
  refine zj_aload_n 51 0 X kd_M_devices_50 rfl rfl rfl ?_
  refine gf_M_32 54 X kd_M_devices_51 rfl ?_
  refine zj_iconst 55 ((-1)) X kd_M_devices_54 ki_m1 rfl ?_
  refine zj_icmp_eq 106 58 X kd_M_devices_55 rfl rfl (fun _ => ?_) (fun _ => ?_)
  · exact zj_vret X kd_M_devices_106
  · refine zj_aload_n 59 0 X kd_M_devices_58 rfl rfl rfl ?_
    refine zj_dup 60 X kd_M_devices_59 rfl rfl ?_
    refine gf_M_58 63 X kd_M_devices_60 rfl ?_
    refine zj_iconst 64 1 X kd_M_devices_63 ki_1 rfl ?_
    refine zj_isub 65 X kd_M_devices_64 rfl ?_
    refine pf_M_58 68 X kd_M_devices_65 rfl ?_
    refine zj_nms (fun s1 => ?_)
    refine zj_aload_n 69 0 X kd_M_devices_68 rfl rfl rfl ?_
    refine gf_M_58 72 X kd_M_devices_69 rfl ?_
    refine zj_if_ne 106 75 X kd_M_devices_72 rfl rfl (fun _ => ?_) (fun _ => ?_)
    · refine zj_aload_n 76 0 X kd_M_devices_75 rfl rfl rfl ?_
      refine gf_M_35 79 X kd_M_devices_76 rfl ?_
      refine zj_aload_n 80 0 X kd_M_devices_79 rfl rfl rfl ?_
      refine gf_M_61 83 X kd_M_devices_80 rfl ?_
      refine zj_bipush 85 16 X kd_M_devices_83 kb_16 rfl ?_
      refine zj_irem 86 X kd_M_devices_85 (by decide) rfl ?_
      refine zj_aload_n 87 0 X kd_M_devices_86 rfl rfl rfl ?_
      refine gf_M_32 90 X kd_M_devices_87 rfl ?_
      refine zj_ng (fun hg => ?_)
      refine as_M_4 91 X kd_M_devices_90 hg rfl ?_
      refine zj_nms (fun s2 => ?_)
      refine zj_aload_n 92 0 X kd_M_devices_91 rfl rfl rfl ?_
      refine zj_dup 93 X kd_M_devices_92 rfl rfl ?_
      refine gf_M_61 96 X kd_M_devices_93 rfl ?_
      refine zj_iconst 97 1 X kd_M_devices_96 ki_1 rfl ?_
      refine zj_iadd 98 X kd_M_devices_97 rfl ?_
      refine pf_M_61 101 X kd_M_devices_98 rfl ?_
      refine zj_nms (fun s3 => ?_)
      refine zj_aload_n 102 0 X kd_M_devices_101 rfl rfl rfl ?_
      refine zj_iconst 103 ((-1)) X kd_M_devices_102 ki_m1 rfl ?_
      refine pf_M_32 106 X kd_M_devices_103 rfl ?_
      refine zj_nms (fun s4 => ?_)
      exact zj_vret X kd_M_devices_106
    · exact zj_vret X kd_M_devices_106
theorem j_M_devices_47 {P : ZP} {E : ZE} {A : Nat → Prop} (X : ZX E (zmV P) A "FrameMachineModel" b_M_devices 1 none 0 0) (s0 : ZS) (t0 : Int32) : ZJ E (zmV P) A 1 (zFv E (zmV P) A) 47 [(0, .ref (P.1 0))] [.int t0, .ref (P.1 0)] s0 (f_M_devices_47 s0 t0) := by
  unfold f_M_devices_47
  refine pf_M_26 50 X kd_M_devices_47 rfl ?_
  refine zj_nms (fun s7 => ?_)
  exact j_M_devices_50 X s7
theorem j_M_devices {P : ZP} {E : ZE} {A : Nat → Prop} (X : ZX E (zmV P) A "FrameMachineModel" b_M_devices 1 none 0 0) (s0 : ZS)  : ZJ E (zmV P) A 1 (zFv E (zmV P) A) 0 [(0, .ref (P.1 0))] [] s0 (f_M_devices s0) := by
  unfold f_M_devices
  refine zj_aload_n 1 0 X kd_M_devices_0 rfl rfl rfl ?_
  refine gf_M_45 4 X kd_M_devices_1 rfl ?_
  refine zj_if_eq 50 7 X kd_M_devices_4 rfl rfl (fun _ => ?_) (fun _ => ?_)
  · exact j_M_devices_50 X s0
  · refine zj_aload_n 8 0 X kd_M_devices_7 rfl rfl rfl ?_
    refine zj_dup 9 X kd_M_devices_8 rfl rfl ?_
    refine gf_M_26 12 X kd_M_devices_9 rfl ?_
    refine zj_iconst 13 1 X kd_M_devices_12 ki_1 rfl ?_
    refine zj_isub 14 X kd_M_devices_13 rfl ?_
    refine pf_M_26 17 X kd_M_devices_14 rfl ?_
    refine zj_nms (fun s5 => ?_)
    refine zj_aload_n 18 0 X kd_M_devices_17 rfl rfl rfl ?_
    refine gf_M_26 21 X kd_M_devices_18 rfl ?_
    refine zj_if_ne 50 24 X kd_M_devices_21 rfl rfl (fun _ => ?_) (fun _ => ?_)
    · refine zj_aload_n 25 0 X kd_M_devices_24 rfl rfl rfl ?_
      refine zj_iconst 26 1 X kd_M_devices_25 ki_1 rfl ?_
      refine pf_M_49 29 X kd_M_devices_26 (Or.inr rfl) rfl ?_
      refine zj_nms (fun s6 => ?_)
      refine zj_aload_n 30 0 X kd_M_devices_29 rfl rfl rfl ?_
      refine zj_aload_n 31 0 X kd_M_devices_30 rfl rfl rfl ?_
      refine gf_M_55 34 X kd_M_devices_31 rfl ?_
      refine zj_if_ne 43 37 X kd_M_devices_34 rfl rfl (fun _ => ?_) (fun _ => ?_)
      · refine zj_sipush 40 256 X kd_M_devices_37 ks_256 rfl ?_
        refine zj_goto 47 X kd_M_devices_40 rfl ?_
        exact j_M_devices_47 X s6 256
      · refine zj_aload_n 44 0 X kd_M_devices_43 rfl rfl rfl ?_
        refine gf_M_55 47 X kd_M_devices_44 rfl ?_
        exact j_M_devices_47 X s6 ((s6 0 23))
    · exact j_M_devices_50 X s5
theorem c_M_devices {l : Launch} {P : ZP} (hV : ZVok (zmV P)) (s0 : ZS)  {z : ZS} (h : f_M_devices s0  = some z) : zMv l y_M_devices b_M_devices 1 none 0 0 (zmV P) s0 [.ref (P.1 0)] z :=
  zMv_of (by decide +kernel) rfl rfl (Nat.le_of_ble_eq_true rfl) hV (fun _ X => j_M_devices X s0 ) h
theorem kc_M_284 : zCV "FrameMachineModel" 284 y_M_devices b_M_devices 1 none 0 := ⟨⟨kw_894, kw_896, ksel_30, kw_11, kw_897⟩, by decide +kernel, by decide +kernel, by decide +kernel⟩
theorem mc_M_284 {ρ : Type} {E : ZE} {P : ZP} {A : Nat → Prop} {cc : ByteArray} {nL : Nat} {ret : Option FieldType} {fr lo : Nat} {F : ρ → State → Prop} {pc : Nat} {L : List (Nat × Value)} {rest : List Value} {σ : ZS}  {K : ZS → Option ρ} (q : Nat) (X : ZX E (zmV P) A "FrameMachineModel" cc nL ret fr lo) (d : decode cc pc = .ok (.invokevirtual 284, 3)) (hfr : 0 + 1 ≤ fr) (hlo : 8 + (1 + 11) + 0 ≤ lo) (hr : (rest.map fun v => v.category).sum ≤ 8) (hq : pc + 3 = q) (kk : ∀ p : ZS, ZJ E (zmV P) A nL F q L (rest) p (K p)) : ZJ E (zmV P) A nL F pc L (.ref (P.1 0) :: rest) σ ((f_M_devices σ ).bind K) :=
  zj_cVv q 0 0 (As := []) (rest := rest) X kc_M_284 hfr hlo (fun p h => c_M_devices (zx_v X) σ  h) rfl rfl rfl hr d hq kk
-- FrameMachineModel.allowed(IIZ)I
theorem kd_M_allowed_0 : decode b_M_allowed 0 = .ok (.aload_n 0, 1) := by decide +kernel
theorem kd_M_allowed_1 : decode b_M_allowed 1 = .ok (.getfield 64, 3) := by decide +kernel
theorem kd_M_allowed_4 : decode b_M_allowed 4 = .ok (.ifCond .eq 5, 3) := by decide +kernel
theorem kd_M_allowed_7 : decode b_M_allowed 7 = .ok (.iconst 0, 1) := by decide +kernel
theorem kd_M_allowed_8 : decode b_M_allowed 8 = .ok (.ireturn, 1) := by decide +kernel
theorem kd_M_allowed_9 : decode b_M_allowed 9 = .ok (.iload_n 1, 1) := by decide +kernel
theorem kd_M_allowed_10 : decode b_M_allowed 10 = .ok (.i2l, 1) := by decide +kernel
theorem kd_M_allowed_11 : decode b_M_allowed 11 = .ok (.ldc2_w 67, 3) := by decide +kernel
theorem kd_M_allowed_14 : decode b_M_allowed 14 = .ok (.land, 1) := by decide +kernel
theorem kd_M_allowed_15 : decode b_M_allowed 15 = .ok (.lstore 4, 2) := by decide +kernel
theorem kd_M_allowed_17 : decode b_M_allowed 17 = .ok (.iload_n 2, 1) := by decide +kernel
theorem kd_M_allowed_18 : decode b_M_allowed 18 = .ok (.iconst 1, 1) := by decide +kernel
theorem kd_M_allowed_19 : decode b_M_allowed 19 = .ok (.if_icmp .le 18, 3) := by decide +kernel
theorem kd_M_allowed_22 : decode b_M_allowed 22 = .ok (.lload 4, 2) := by decide +kernel
theorem kd_M_allowed_24 : decode b_M_allowed 24 = .ok (.ldc2_w 69, 3) := by decide +kernel
theorem kd_M_allowed_27 : decode b_M_allowed 27 = .ok (.lrem, 1) := by decide +kernel
theorem kd_M_allowed_28 : decode b_M_allowed 28 = .ok (.lconst 1, 1) := by decide +kernel
theorem kd_M_allowed_29 : decode b_M_allowed 29 = .ok (.lcmp, 1) := by decide +kernel
theorem kd_M_allowed_30 : decode b_M_allowed 30 = .ok (.ifCond .ne 7, 3) := by decide +kernel
theorem kd_M_allowed_33 : decode b_M_allowed 33 = .ok (.iconst 0, 1) := by decide +kernel
theorem kd_M_allowed_34 : decode b_M_allowed 34 = .ok (.goto 47, 3) := by decide +kernel
theorem kd_M_allowed_37 : decode b_M_allowed 37 = .ok (.lload 4, 2) := by decide +kernel
theorem kd_M_allowed_39 : decode b_M_allowed 39 = .ok (.iload_n 2, 1) := by decide +kernel
theorem kd_M_allowed_40 : decode b_M_allowed 40 = .ok (.i2l, 1) := by decide +kernel
theorem kd_M_allowed_41 : decode b_M_allowed 41 = .ok (.ladd, 1) := by decide +kernel
theorem kd_M_allowed_42 : decode b_M_allowed 42 = .ok (.ldc2_w 71, 3) := by decide +kernel
theorem kd_M_allowed_45 : decode b_M_allowed 45 = .ok (.lcmp, 1) := by decide +kernel
theorem kd_M_allowed_46 : decode b_M_allowed 46 = .ok (.ifCond .gt 7, 3) := by decide +kernel
theorem kd_M_allowed_49 : decode b_M_allowed 49 = .ok (.iconst 1, 1) := by decide +kernel
theorem kd_M_allowed_50 : decode b_M_allowed 50 = .ok (.goto 31, 3) := by decide +kernel
theorem kd_M_allowed_53 : decode b_M_allowed 53 = .ok (.iload_n 2, 1) := by decide +kernel
theorem kd_M_allowed_54 : decode b_M_allowed 54 = .ok (.iconst 1, 1) := by decide +kernel
theorem kd_M_allowed_55 : decode b_M_allowed 55 = .ok (.if_icmp .ne 25, 3) := by decide +kernel
theorem kd_M_allowed_58 : decode b_M_allowed 58 = .ok (.lload 4, 2) := by decide +kernel
theorem kd_M_allowed_60 : decode b_M_allowed 60 = .ok (.ldc2_w 73, 3) := by decide +kernel
theorem kd_M_allowed_63 : decode b_M_allowed 63 = .ok (.lcmp, 1) := by decide +kernel
theorem kd_M_allowed_64 : decode b_M_allowed 64 = .ok (.ifCond .lt 16, 3) := by decide +kernel
theorem kd_M_allowed_67 : decode b_M_allowed 67 = .ok (.lload 4, 2) := by decide +kernel
theorem kd_M_allowed_69 : decode b_M_allowed 69 = .ok (.ldc2_w 75, 3) := by decide +kernel
theorem kd_M_allowed_72 : decode b_M_allowed 72 = .ok (.lcmp, 1) := by decide +kernel
theorem kd_M_allowed_73 : decode b_M_allowed 73 = .ok (.ifCond .gt 7, 3) := by decide +kernel
theorem kd_M_allowed_76 : decode b_M_allowed 76 = .ok (.iconst 2, 1) := by decide +kernel
theorem kd_M_allowed_77 : decode b_M_allowed 77 = .ok (.goto 4, 3) := by decide +kernel
theorem kd_M_allowed_80 : decode b_M_allowed 80 = .ok (.iconst 0, 1) := by decide +kernel
theorem kd_M_allowed_81 : decode b_M_allowed 81 = .ok (.istore 6, 2) := by decide +kernel
theorem kd_M_allowed_83 : decode b_M_allowed 83 = .ok (.iload 6, 2) := by decide +kernel
theorem kd_M_allowed_85 : decode b_M_allowed 85 = .ok (.ifCond .ne 46, 3) := by decide +kernel
theorem kd_M_allowed_88 : decode b_M_allowed 88 = .ok (.aload_n 0, 1) := by decide +kernel
theorem kd_M_allowed_89 : decode b_M_allowed 89 = .ok (.iload_n 2, 1) := by decide +kernel
theorem kd_M_allowed_90 : decode b_M_allowed 90 = .ok (.iconst 1, 1) := by decide +kernel
theorem kd_M_allowed_91 : decode b_M_allowed 91 = .ok (.if_icmp .le 18, 3) := by decide +kernel
theorem kd_M_allowed_94 : decode b_M_allowed 94 = .ok (.lload 4, 2) := by decide +kernel
theorem kd_M_allowed_96 : decode b_M_allowed 96 = .ok (.ldc2_w 69, 3) := by decide +kernel
theorem kd_M_allowed_99 : decode b_M_allowed 99 = .ok (.lrem, 1) := by decide +kernel
theorem kd_M_allowed_100 : decode b_M_allowed 100 = .ok (.lconst 1, 1) := by decide +kernel
theorem kd_M_allowed_101 : decode b_M_allowed 101 = .ok (.lcmp, 1) := by decide +kernel
theorem kd_M_allowed_102 : decode b_M_allowed 102 = .ok (.ifCond .ne 7, 3) := by decide +kernel
theorem kd_M_allowed_105 : decode b_M_allowed 105 = .ok (.iconst 3, 1) := by decide +kernel
theorem kd_M_allowed_106 : decode b_M_allowed 106 = .ok (.goto 4, 3) := by decide +kernel
theorem kd_M_allowed_109 : decode b_M_allowed 109 = .ok (.iconst 2, 1) := by decide +kernel
theorem kd_M_allowed_110 : decode b_M_allowed 110 = .ok (.putfield 64, 3) := by decide +kernel
theorem kd_M_allowed_113 : decode b_M_allowed 113 = .ok (.aload_n 0, 1) := by decide +kernel
theorem kd_M_allowed_114 : decode b_M_allowed 114 = .ok (.iload_n 1, 1) := by decide +kernel
theorem kd_M_allowed_115 : decode b_M_allowed 115 = .ok (.putfield 77, 3) := by decide +kernel
theorem kd_M_allowed_118 : decode b_M_allowed 118 = .ok (.aload_n 0, 1) := by decide +kernel
theorem kd_M_allowed_119 : decode b_M_allowed 119 = .ok (.iload_n 3, 1) := by decide +kernel
theorem kd_M_allowed_120 : decode b_M_allowed 120 = .ok (.ifCond .eq 7, 3) := by decide +kernel
theorem kd_M_allowed_123 : decode b_M_allowed 123 = .ok (.iconst 1, 1) := by decide +kernel
theorem kd_M_allowed_124 : decode b_M_allowed 124 = .ok (.goto 4, 3) := by decide +kernel
theorem kd_M_allowed_127 : decode b_M_allowed 127 = .ok (.iconst 0, 1) := by decide +kernel
theorem kd_M_allowed_128 : decode b_M_allowed 128 = .ok (.putfield 80, 3) := by decide +kernel
theorem kd_M_allowed_131 : decode b_M_allowed 131 = .ok (.iload 6, 2) := by decide +kernel
theorem kd_M_allowed_133 : decode b_M_allowed 133 = .ok (.ireturn, 1) := by decide +kernel
noncomputable def f_M_allowed_131 (s0 : ZS) (l6 : Int32) : Option (Int32 × ZS) :=
  some (l6, s0)
noncomputable def f_M_allowed_128 (s0 : ZS) (l6 : Int32) (t0 : Int32) : Option (Int32 × ZS) :=
  zs_nm (zs_up s0 0 17 t0) fun s4 =>
  f_M_allowed_131 s4 l6
noncomputable def f_M_allowed_110 (s0 : ZS) (l1 : Int32) (l3 : Int32) (l6 : Int32) (t0 : Int32) : Option (Int32 × ZS) :=
  zs_nm (zs_up s0 0 15 t0) fun s2 =>
  zs_nm (zs_up s2 0 16 l1) fun s3 =>
  if l3 = 0 then
    f_M_allowed_128 s3 l6 0
  else
    f_M_allowed_128 s3 l6 1
noncomputable def f_M_allowed_109 (s0 : ZS) (l1 : Int32) (l3 : Int32) (l6 : Int32) : Option (Int32 × ZS) :=
  f_M_allowed_110 s0 l1 l3 l6 2
noncomputable def f_M_allowed_81 (s0 : ZS) (l1 : Int32) (l2 : Int32) (l3 : Int32) (l4 : Int64) (t0 : Int32) : Option (Int32 × ZS) :=
  if t0 = 0 then
    if l2 ≤ 1 then
      f_M_allowed_109 s0 l1 l3 t0
    else
      if (lg_cmp (zo_lrem l4 2) 1) = 0 then
        f_M_allowed_110 s0 l1 l3 t0 3
      else
        f_M_allowed_109 s0 l1 l3 t0
  else
    f_M_allowed_131 s0 t0
noncomputable def f_M_allowed_80 (s0 : ZS) (l1 : Int32) (l2 : Int32) (l3 : Int32) (l4 : Int64) : Option (Int32 × ZS) :=
  f_M_allowed_81 s0 l1 l2 l3 l4 0
noncomputable def f_M_allowed_37 (s0 : ZS) (l1 : Int32) (l2 : Int32) (l3 : Int32) (l4 : Int64) : Option (Int32 × ZS) :=
  if 0 < (lg_cmp (l4 + (l2.toInt64)) 1024) then
    if l2 = 1 then
      if (lg_cmp l4 61440) < 0 then
        f_M_allowed_80 s0 l1 l2 l3 l4
      else
        if 0 < (lg_cmp l4 61443) then
          f_M_allowed_80 s0 l1 l2 l3 l4
        else
          f_M_allowed_81 s0 l1 l2 l3 l4 2
    else
      f_M_allowed_80 s0 l1 l2 l3 l4
  else
    f_M_allowed_81 s0 l1 l2 l3 l4 1
noncomputable def f_M_allowed (s0 : ZS) (x1 : Int32) (x2 : Int32) (x3 : Int32) : Option (Int32 × ZS) :=
  if (s0 0 15) = 0 then
    zs_nm ((x1.toInt64) &&& 4294967295) fun v1 =>
    if x2 ≤ 1 then
      f_M_allowed_37 s0 x1 x2 x3 v1
    else
      if (lg_cmp (zo_lrem v1 2) 1) = 0 then
        f_M_allowed_81 s0 x1 x2 x3 v1 0
      else
        f_M_allowed_37 s0 x1 x2 x3 v1
  else
    some (0, s0)
theorem j_M_allowed_131 {P : ZP} {E : ZE} {A : Nat → Prop} (X : ZX E (zmV P) A "FrameMachineModel" b_M_allowed 7 (some .int) 0 0) (s0 : ZS) (l6 : Int32) : ZJ E (zmV P) A 7 (zFi E (zmV P) A) 131 [(6, .int l6)] [] s0 (f_M_allowed_131 s0 l6) := by
  unfold f_M_allowed_131
  refine zj_iload 133 0 X kd_M_allowed_131 rfl rfl ?_
  exact zj_iret X kd_M_allowed_133
theorem j_M_allowed_128 {P : ZP} {E : ZE} {A : Nat → Prop} (X : ZX E (zmV P) A "FrameMachineModel" b_M_allowed 7 (some .int) 0 0) (s0 : ZS) (l6 : Int32) (t0 : Int32) : ZJ E (zmV P) A 7 (zFi E (zmV P) A) 128 [(6, .int l6)] [.int t0, .ref (P.1 0)] s0 (f_M_allowed_128 s0 l6 t0) := by
  unfold f_M_allowed_128
  refine pf_M_80 131 X kd_M_allowed_128 rfl ?_
  refine zj_nms (fun s4 => ?_)
  exact j_M_allowed_131 X s4 l6
theorem j_M_allowed_110 {P : ZP} {E : ZE} {A : Nat → Prop} (X : ZX E (zmV P) A "FrameMachineModel" b_M_allowed 7 (some .int) 0 0) (s0 : ZS) (l1 : Int32) (l3 : Int32) (l6 : Int32) (t0 : Int32) : ZJ E (zmV P) A 7 (zFi E (zmV P) A) 110 [(0, .ref (P.1 0)), (1, .int l1), (3, .int l3), (6, .int l6)] [.int t0, .ref (P.1 0)] s0 (f_M_allowed_110 s0 l1 l3 l6 t0) := by
  unfold f_M_allowed_110
  refine pf_M_64 113 X kd_M_allowed_110 rfl ?_
  refine zj_nms (fun s2 => ?_)
  refine zj_aload_n 114 0 X kd_M_allowed_113 rfl rfl rfl ?_
  refine zj_iload_n 115 1 X kd_M_allowed_114 rfl rfl rfl ?_
  refine pf_M_77 118 X kd_M_allowed_115 rfl ?_
  refine zj_nms (fun s3 => ?_)
  refine zj_aload_n 119 0 X kd_M_allowed_118 rfl rfl rfl ?_
  refine zj_iload_n 120 2 X kd_M_allowed_119 rfl rfl rfl ?_
  refine zj_if_eq 127 123 X kd_M_allowed_120 rfl rfl (fun _ => ?_) (fun _ => ?_)
  · refine zj_iconst 128 0 X kd_M_allowed_127 ki_0 rfl ?_
    refine zj_loc [3] (L2 := [(6, .int l6)]) rfl ?_
    exact j_M_allowed_128 X s3 l6 0
  · refine zj_iconst 124 1 X kd_M_allowed_123 ki_1 rfl ?_
    refine zj_goto 128 X kd_M_allowed_124 rfl ?_
    refine zj_loc [3] (L2 := [(6, .int l6)]) rfl ?_
    exact j_M_allowed_128 X s3 l6 1
theorem j_M_allowed_109 {P : ZP} {E : ZE} {A : Nat → Prop} (X : ZX E (zmV P) A "FrameMachineModel" b_M_allowed 7 (some .int) 0 0) (s0 : ZS) (l1 : Int32) (l3 : Int32) (l6 : Int32) : ZJ E (zmV P) A 7 (zFi E (zmV P) A) 109 [(0, .ref (P.1 0)), (1, .int l1), (3, .int l3), (6, .int l6)] [.ref (P.1 0)] s0 (f_M_allowed_109 s0 l1 l3 l6) := by
  unfold f_M_allowed_109
  refine zj_iconst 110 2 X kd_M_allowed_109 ki_2 rfl ?_
  exact j_M_allowed_110 X s0 l1 l3 l6 2
theorem j_M_allowed_81 {P : ZP} {E : ZE} {A : Nat → Prop} (X : ZX E (zmV P) A "FrameMachineModel" b_M_allowed 7 (some .int) 0 0) (s0 : ZS) (l1 : Int32) (l2 : Int32) (l3 : Int32) (l4 : Int64) (t0 : Int32) : ZJ E (zmV P) A 7 (zFi E (zmV P) A) 81 [(0, .ref (P.1 0)), (1, .int l1), (2, .int l2), (3, .int l3), (4, .long l4)] [.int t0] s0 (f_M_allowed_81 s0 l1 l2 l3 l4 t0) := by
  unfold f_M_allowed_81
  refine zj_istore 83 [(6, .int t0), (0, .ref (P.1 0)), (1, .int l1), (2, .int l2), (3, .int l3), (4, .long l4)] X kd_M_allowed_81 (Nat.le_of_ble_eq_true rfl) rfl rfl ?_
  refine zj_iload 85 0 X kd_M_allowed_83 rfl rfl ?_
  refine zj_if_ne 131 88 X kd_M_allowed_85 rfl rfl (fun _ => ?_) (fun _ => ?_)
  · refine zj_aload_n 89 1 X kd_M_allowed_88 rfl rfl rfl ?_
    refine zj_iload_n 90 3 X kd_M_allowed_89 rfl rfl rfl ?_
    refine zj_iconst 91 1 X kd_M_allowed_90 ki_1 rfl ?_
    refine zj_icmp_le 109 94 X kd_M_allowed_91 rfl rfl (fun _ => ?_) (fun _ => ?_)
    · refine zj_loc [1, 2, 4, 0] (L2 := [(0, .ref (P.1 0)), (1, .int l1), (3, .int l3), (6, .int t0)]) rfl ?_
      exact j_M_allowed_109 X s0 l1 l3 t0
    · refine zj_lload 96 5 X kd_M_allowed_94 rfl rfl ?_
      refine zj_ldc2 99 2 X kd_M_allowed_96 kw_927 rfl ?_
      refine zj_lrem 100 X kd_M_allowed_99 (by decide) rfl ?_
      refine zj_lconst 101 1 X kd_M_allowed_100 rfl rfl ?_
      refine zj_lcmp 102 X kd_M_allowed_101 rfl ?_
      refine zj_if_ne 109 105 X kd_M_allowed_102 rfl rfl (fun _ => ?_) (fun _ => ?_)
      · refine zj_iconst 106 3 X kd_M_allowed_105 ki_3 rfl ?_
        refine zj_goto 110 X kd_M_allowed_106 rfl ?_
        refine zj_loc [1, 2, 4, 0] (L2 := [(0, .ref (P.1 0)), (1, .int l1), (3, .int l3), (6, .int t0)]) rfl ?_
        exact j_M_allowed_110 X s0 l1 l3 t0 3
      · refine zj_loc [1, 2, 4, 0] (L2 := [(0, .ref (P.1 0)), (1, .int l1), (3, .int l3), (6, .int t0)]) rfl ?_
        exact j_M_allowed_109 X s0 l1 l3 t0
  · refine zj_loc [0] (L2 := [(6, .int t0)]) rfl ?_
    exact j_M_allowed_131 X s0 t0
theorem j_M_allowed_80 {P : ZP} {E : ZE} {A : Nat → Prop} (X : ZX E (zmV P) A "FrameMachineModel" b_M_allowed 7 (some .int) 0 0) (s0 : ZS) (l1 : Int32) (l2 : Int32) (l3 : Int32) (l4 : Int64) : ZJ E (zmV P) A 7 (zFi E (zmV P) A) 80 [(0, .ref (P.1 0)), (1, .int l1), (2, .int l2), (3, .int l3), (4, .long l4)] [] s0 (f_M_allowed_80 s0 l1 l2 l3 l4) := by
  unfold f_M_allowed_80
  refine zj_iconst 81 0 X kd_M_allowed_80 ki_0 rfl ?_
  exact j_M_allowed_81 X s0 l1 l2 l3 l4 0
theorem j_M_allowed_37 {P : ZP} {E : ZE} {A : Nat → Prop} (X : ZX E (zmV P) A "FrameMachineModel" b_M_allowed 7 (some .int) 0 0) (s0 : ZS) (l1 : Int32) (l2 : Int32) (l3 : Int32) (l4 : Int64) : ZJ E (zmV P) A 7 (zFi E (zmV P) A) 37 [(0, .ref (P.1 0)), (1, .int l1), (2, .int l2), (3, .int l3), (4, .long l4)] [] s0 (f_M_allowed_37 s0 l1 l2 l3 l4) := by
  unfold f_M_allowed_37
  refine zj_lload 39 4 X kd_M_allowed_37 rfl rfl ?_
  refine zj_iload_n 40 2 X kd_M_allowed_39 rfl rfl rfl ?_
  refine zj_i2l 41 X kd_M_allowed_40 rfl ?_
  refine zj_ladd 42 X kd_M_allowed_41 rfl ?_
  refine zj_ldc2 45 1024 X kd_M_allowed_42 kw_928 rfl ?_
  refine zj_lcmp 46 X kd_M_allowed_45 rfl ?_
  refine zj_if_gt 53 49 X kd_M_allowed_46 rfl rfl (fun _ => ?_) (fun _ => ?_)
  · refine zj_iload_n 54 2 X kd_M_allowed_53 rfl rfl rfl ?_
    refine zj_iconst 55 1 X kd_M_allowed_54 ki_1 rfl ?_
    refine zj_icmp_ne 80 58 X kd_M_allowed_55 rfl rfl (fun _ => ?_) (fun _ => ?_)
    · refine zj_lload 60 4 X kd_M_allowed_58 rfl rfl ?_
      refine zj_ldc2 63 61440 X kd_M_allowed_60 kw_929 rfl ?_
      refine zj_lcmp 64 X kd_M_allowed_63 rfl ?_
      refine zj_if_lt 80 67 X kd_M_allowed_64 rfl rfl (fun _ => ?_) (fun _ => ?_)
      · exact j_M_allowed_80 X s0 l1 l2 l3 l4
      · refine zj_lload 69 4 X kd_M_allowed_67 rfl rfl ?_
        refine zj_ldc2 72 61443 X kd_M_allowed_69 kw_930 rfl ?_
        refine zj_lcmp 73 X kd_M_allowed_72 rfl ?_
        refine zj_if_gt 80 76 X kd_M_allowed_73 rfl rfl (fun _ => ?_) (fun _ => ?_)
        · exact j_M_allowed_80 X s0 l1 l2 l3 l4
        · refine zj_iconst 77 2 X kd_M_allowed_76 ki_2 rfl ?_
          refine zj_goto 81 X kd_M_allowed_77 rfl ?_
          exact j_M_allowed_81 X s0 l1 l2 l3 l4 2
    · exact j_M_allowed_80 X s0 l1 l2 l3 l4
  · refine zj_iconst 50 1 X kd_M_allowed_49 ki_1 rfl ?_
    refine zj_goto 81 X kd_M_allowed_50 rfl ?_
    exact j_M_allowed_81 X s0 l1 l2 l3 l4 1
theorem j_M_allowed {P : ZP} {E : ZE} {A : Nat → Prop} (X : ZX E (zmV P) A "FrameMachineModel" b_M_allowed 7 (some .int) 0 0) (s0 : ZS) (x1 : Int32) (x2 : Int32) (x3 : Int32) : ZJ E (zmV P) A 7 (zFi E (zmV P) A) 0 [(0, .ref (P.1 0)), (1, .int x1), (2, .int x2), (3, .int x3)] [] s0 (f_M_allowed s0 x1 x2 x3) := by
  unfold f_M_allowed
  refine zj_aload_n 1 0 X kd_M_allowed_0 rfl rfl rfl ?_
  refine gf_M_64 4 X kd_M_allowed_1 rfl ?_
  refine zj_if_eq 9 7 X kd_M_allowed_4 rfl rfl (fun _ => ?_) (fun _ => ?_)
  · refine zj_iload_n 10 1 X kd_M_allowed_9 rfl rfl rfl ?_
    refine zj_i2l 11 X kd_M_allowed_10 rfl ?_
    refine zj_ldc2 14 4294967295 X kd_M_allowed_11 kw_911 rfl ?_
    refine zj_land 15 X kd_M_allowed_14 rfl ?_
    refine zj_nml (fun v1 => ?_)
    refine zj_lstore 17 [(4, .long v1), (0, .ref (P.1 0)), (1, .int x1), (2, .int x2), (3, .int x3)] X kd_M_allowed_15 (Nat.le_of_ble_eq_true rfl) rfl rfl ?_
    refine zj_iload_n 18 3 X kd_M_allowed_17 rfl rfl rfl ?_
    refine zj_iconst 19 1 X kd_M_allowed_18 ki_1 rfl ?_
    refine zj_icmp_le 37 22 X kd_M_allowed_19 rfl rfl (fun _ => ?_) (fun _ => ?_)
    · refine zj_loc [1, 2, 3, 4, 0] (L2 := [(0, .ref (P.1 0)), (1, .int x1), (2, .int x2), (3, .int x3), (4, .long v1)]) rfl ?_
      exact j_M_allowed_37 X s0 x1 x2 x3 v1
    · refine zj_lload 24 0 X kd_M_allowed_22 rfl rfl ?_
      refine zj_ldc2 27 2 X kd_M_allowed_24 kw_927 rfl ?_
      refine zj_lrem 28 X kd_M_allowed_27 (by decide) rfl ?_
      refine zj_lconst 29 1 X kd_M_allowed_28 rfl rfl ?_
      refine zj_lcmp 30 X kd_M_allowed_29 rfl ?_
      refine zj_if_ne 37 33 X kd_M_allowed_30 rfl rfl (fun _ => ?_) (fun _ => ?_)
      · refine zj_iconst 34 0 X kd_M_allowed_33 ki_0 rfl ?_
        refine zj_goto 81 X kd_M_allowed_34 rfl ?_
        refine zj_loc [1, 2, 3, 4, 0] (L2 := [(0, .ref (P.1 0)), (1, .int x1), (2, .int x2), (3, .int x3), (4, .long v1)]) rfl ?_
        exact j_M_allowed_81 X s0 x1 x2 x3 v1 0
      · refine zj_loc [1, 2, 3, 4, 0] (L2 := [(0, .ref (P.1 0)), (1, .int x1), (2, .int x2), (3, .int x3), (4, .long v1)]) rfl ?_
        exact j_M_allowed_37 X s0 x1 x2 x3 v1
  · refine zj_iconst 8 0 X kd_M_allowed_7 ki_0 rfl ?_
    exact zj_iret X kd_M_allowed_8
theorem c_M_allowed {l : Launch} {P : ZP} (hV : ZVok (zmV P)) (s0 : ZS) (x1 : Int32) (x2 : Int32) (x3 : Int32) {z : Int32 × ZS} (h : f_M_allowed s0 x1 x2 x3 = some z) : zMi l y_M_allowed b_M_allowed 7 (some .int) 0 0 (zmV P) s0 [.ref (P.1 0), .int x1, .int x2, .int x3] z :=
  zMi_of (by decide +kernel) rfl rfl (Nat.le_of_ble_eq_true rfl) hV (fun _ X => j_M_allowed X s0 x1 x2 x3) h
theorem kc_M_87 : zCV "FrameMachineModel" 87 y_M_allowed b_M_allowed 7 (some .int) 3 := ⟨⟨kw_923, kw_925, ksel_36, kw_11, kw_926⟩, by decide +kernel, by decide +kernel, by decide +kernel⟩
theorem mc_M_87 {ρ : Type} {E : ZE} {P : ZP} {A : Nat → Prop} {cc : ByteArray} {nL : Nat} {ret : Option FieldType} {fr lo : Nat} {F : ρ → State → Prop} {pc : Nat} {L : List (Nat × Value)} {rest : List Value} {σ : ZS} {x1 : Int32} {x2 : Int32} {x3 : Int32} {K : Int32 × ZS → Option ρ} (q : Nat) (X : ZX E (zmV P) A "FrameMachineModel" cc nL ret fr lo) (d : decode cc pc = .ok (.invokevirtual 87, 3)) (hfr : 0 + 1 ≤ fr) (hlo : 8 + (7 + 11) + 0 ≤ lo) (hr : (rest.map fun v => v.category).sum ≤ 8) (hq : pc + 3 = q) (kk : ∀ p : Int32 × ZS, ZJ E (zmV P) A nL F q L (.int p.1 :: rest) p.2 (K p)) : ZJ E (zmV P) A nL F pc L (.int x3 :: .int x2 :: .int x1 :: .ref (P.1 0) :: rest) σ ((f_M_allowed σ x1 x2 x3).bind K) :=
  zj_cVi q 0 0 (As := [.int x1, .int x2, .int x3]) (rest := rest) X kc_M_87 hfr hlo (fun p h => c_M_allowed (zx_v X) σ x1 x2 x3 h) rfl rfl rfl hr d hq kk
-- FrameMachineModel.read(II)J
theorem kd_M_read_0 : decode b_M_read 0 = .ok (.aload_n 0, 1) := by decide +kernel
theorem kd_M_read_1 : decode b_M_read 1 = .ok (.iload_n 1, 1) := by decide +kernel
theorem kd_M_read_2 : decode b_M_read 2 = .ok (.iload_n 2, 1) := by decide +kernel
theorem kd_M_read_3 : decode b_M_read 3 = .ok (.invokestatic 83, 3) := by decide +kernel
theorem kd_M_read_6 : decode b_M_read 6 = .ok (.iconst 1, 1) := by decide +kernel
theorem kd_M_read_7 : decode b_M_read 7 = .ok (.invokevirtual 87, 3) := by decide +kernel
theorem kd_M_read_10 : decode b_M_read 10 = .ok (.istore_n 3, 1) := by decide +kernel
theorem kd_M_read_11 : decode b_M_read 11 = .ok (.iload_n 3, 1) := by decide +kernel
theorem kd_M_read_12 : decode b_M_read 12 = .ok (.ifCond .ne 5, 3) := by decide +kernel
theorem kd_M_read_15 : decode b_M_read 15 = .ok (.lconst 0, 1) := by decide +kernel
theorem kd_M_read_16 : decode b_M_read 16 = .ok (.lreturn, 1) := by decide +kernel
theorem kd_M_read_17 : decode b_M_read 17 = .ok (.iload_n 3, 1) := by decide +kernel
theorem kd_M_read_18 : decode b_M_read 18 = .ok (.iconst 2, 1) := by decide +kernel
theorem kd_M_read_19 : decode b_M_read 19 = .ok (.if_icmp .ne 17, 3) := by decide +kernel
theorem kd_M_read_22 : decode b_M_read 22 = .ok (.aload_n 0, 1) := by decide +kernel
theorem kd_M_read_23 : decode b_M_read 23 = .ok (.iload_n 1, 1) := by decide +kernel
theorem kd_M_read_24 : decode b_M_read 24 = .ok (.ldc 91, 2) := by decide +kernel
theorem kd_M_read_26 : decode b_M_read 26 = .ok (.isub, 1) := by decide +kernel
theorem kd_M_read_27 : decode b_M_read 27 = .ok (.invokevirtual 92, 3) := by decide +kernel
theorem kd_M_read_30 : decode b_M_read 30 = .ok (.istore 4, 2) := by decide +kernel
theorem kd_M_read_32 : decode b_M_read 32 = .ok (.iload 4, 2) := by decide +kernel
theorem kd_M_read_34 : decode b_M_read 34 = .ok (.i2l, 1) := by decide +kernel
theorem kd_M_read_35 : decode b_M_read 35 = .ok (.lreturn, 1) := by decide +kernel
theorem kd_M_read_36 : decode b_M_read 36 = .ok (.lconst 0, 1) := by decide +kernel
theorem kd_M_read_37 : decode b_M_read 37 = .ok (.lstore 4, 2) := by decide +kernel
theorem kd_M_read_39 : decode b_M_read 39 = .ok (.iconst 0, 1) := by decide +kernel
theorem kd_M_read_40 : decode b_M_read 40 = .ok (.istore 6, 2) := by decide +kernel
theorem kd_M_read_42 : decode b_M_read 42 = .ok (.iload 6, 2) := by decide +kernel
theorem kd_M_read_44 : decode b_M_read 44 = .ok (.iload_n 2, 1) := by decide +kernel
theorem kd_M_read_45 : decode b_M_read 45 = .ok (.invokestatic 83, 3) := by decide +kernel
theorem kd_M_read_48 : decode b_M_read 48 = .ok (.if_icmp .ge 28, 3) := by decide +kernel
theorem kd_M_read_51 : decode b_M_read 51 = .ok (.lload 4, 2) := by decide +kernel
theorem kd_M_read_53 : decode b_M_read 53 = .ok (.ldc2_w 95, 3) := by decide +kernel
theorem kd_M_read_56 : decode b_M_read 56 = .ok (.lmul, 1) := by decide +kernel
theorem kd_M_read_57 : decode b_M_read 57 = .ok (.aload_n 0, 1) := by decide +kernel
theorem kd_M_read_58 : decode b_M_read 58 = .ok (.getfield 7, 3) := by decide +kernel
theorem kd_M_read_61 : decode b_M_read 61 = .ok (.iload_n 1, 1) := by decide +kernel
theorem kd_M_read_62 : decode b_M_read 62 = .ok (.iload 6, 2) := by decide +kernel
theorem kd_M_read_64 : decode b_M_read 64 = .ok (.iadd, 1) := by decide +kernel
theorem kd_M_read_65 : decode b_M_read 65 = .ok (.iaload, 1) := by decide +kernel
theorem kd_M_read_66 : decode b_M_read 66 = .ok (.i2l, 1) := by decide +kernel
theorem kd_M_read_67 : decode b_M_read 67 = .ok (.ladd, 1) := by decide +kernel
theorem kd_M_read_68 : decode b_M_read 68 = .ok (.lstore 4, 2) := by decide +kernel
theorem kd_M_read_70 : decode b_M_read 70 = .ok (.iinc 6 1, 3) := by decide +kernel
theorem kd_M_read_73 : decode b_M_read 73 = .ok (.goto (-31), 3) := by decide +kernel
theorem kd_M_read_76 : decode b_M_read 76 = .ok (.lload 4, 2) := by decide +kernel
theorem kd_M_read_78 : decode b_M_read 78 = .ok (.lreturn, 1) := by decide +kernel
noncomputable def f_M_read_42 : Nat → ZS → Int32 → Int32 → Int64 → Int32 → Option (Int64 × ZS)
  | 0, _, _, _, _, _ => none
  | n+1, s0, l1, l2, l4, l6 =>
    (f_M_bytes s0 l2).bind fun p3 =>
    if p3.1 ≤ l6 then
      some (l4, p3.2)
    else
      zs_nm (l1 + l6) fun v4 =>
      if v4 < 0 ∨ 1024 ≤ v4.toNatClampNeg then none else
      zs_nm ((l4 * 256) + ((p3.2 1 v4.toNatClampNeg).toInt64)) fun v5 =>
      zs_nm (l6 + 1) fun v6 =>
      (f_M_read_42 n) p3.2 l1 l2 v5 v6
noncomputable def f_M_read (s0 : ZS) (x1 : Int32) (x2 : Int32) : Option (Int64 × ZS) :=
  (f_M_bytes s0 x2).bind fun p1 =>
  (f_M_allowed p1.2 x1 p1.1 1).bind fun p2 =>
  if p2.1 = 0 then
    some (0, p2.2)
  else
    if p2.1 = 2 then
      (f_M_device p2.2 (x1 - 61440)).bind fun p7 =>
      some (p7.1.toInt64, p7.2)
    else
      f_M_read_42 20 p2.2 x1 x2 0 0
theorem j_M_read_42 {P : ZP} {E : ZE} {A : Nat → Prop} (X : ZX E (zmV P) A "FrameMachineModel" b_M_read 7 (some .long) 1 26) : ∀ (n : Nat) (s0 : ZS) (l1 : Int32) (l2 : Int32) (l4 : Int64) (l6 : Int32), ZJ E (zmV P) A 7 (zFl E (zmV P) A) 42 [(0, .ref (P.1 0)), (1, .int l1), (2, .int l2), (4, .long l4), (6, .int l6)] [] s0 (f_M_read_42 n s0 l1 l2 l4 l6) := by
  intro n
  induction n with
  | zero => intro s0 l1 l2 l4 l6; rw [f_M_read_42]; exact zj_none
  | succ n hK =>
    intro s0 l1 l2 l4 l6
    rw [f_M_read_42]
    refine zj_iload 44 4 X kd_M_read_42 rfl rfl ?_
    refine zj_iload_n 45 2 X kd_M_read_44 rfl rfl rfl ?_
    refine mc_M_83 48 X kd_M_read_45 (Nat.le_of_ble_eq_true rfl) (Nat.le_of_ble_eq_true rfl) (Nat.le_of_ble_eq_true rfl) rfl (fun p3 => ?_)
    refine zj_icmp_ge 76 51 X kd_M_read_48 rfl rfl (fun _ => ?_) (fun _ => ?_)
    · refine zj_lload 78 3 X kd_M_read_76 rfl rfl ?_
      exact zj_lret X kd_M_read_78
    · refine zj_lload 53 3 X kd_M_read_51 rfl rfl ?_
      refine zj_ldc2 56 256 X kd_M_read_53 kw_945 rfl ?_
      refine zj_lmul 57 X kd_M_read_56 rfl ?_
      refine zj_aload_n 58 0 X kd_M_read_57 rfl rfl rfl ?_
      refine gf_M_7 61 X kd_M_read_58 rfl ?_
      refine zj_iload_n 62 1 X kd_M_read_61 rfl rfl rfl ?_
      refine zj_iload 64 4 X kd_M_read_62 rfl rfl ?_
      refine zj_iadd 65 X kd_M_read_64 rfl ?_
      refine zj_nmi (fun v4 => ?_)
      refine zj_ng (fun hg => ?_)
      refine al_M_1 66 X kd_M_read_65 hg rfl ?_
      refine zj_i2l 67 X kd_M_read_66 rfl ?_
      refine zj_ladd 68 X kd_M_read_67 rfl ?_
      refine zj_nml (fun v5 => ?_)
      refine zj_lstore 70 [(4, .long v5), (0, .ref (P.1 0)), (1, .int l1), (2, .int l2), (6, .int l6)] X kd_M_read_68 (Nat.le_of_ble_eq_true rfl) rfl rfl ?_
      refine zj_iinc 73 4 1 (fun v6 => [(6, .int v6), (4, .long v5), (0, .ref (P.1 0)), (1, .int l1), (2, .int l2)]) X kd_M_read_70 ki_1 rfl (Nat.le_of_ble_eq_true rfl) (fun _ => rfl) rfl (fun v6 => ?_)
      refine zj_goto 42 X kd_M_read_73 rfl ?_
      refine zj_loc [2, 3, 4, 1, 0] (L2 := [(0, .ref (P.1 0)), (1, .int l1), (2, .int l2), (4, .long v5), (6, .int v6)]) rfl ?_
      exact hK p3.2 l1 l2 v5 v6
theorem j_M_read {P : ZP} {E : ZE} {A : Nat → Prop} (X : ZX E (zmV P) A "FrameMachineModel" b_M_read 7 (some .long) 1 26) (s0 : ZS) (x1 : Int32) (x2 : Int32) : ZJ E (zmV P) A 7 (zFl E (zmV P) A) 0 [(0, .ref (P.1 0)), (1, .int x1), (2, .int x2)] [] s0 (f_M_read s0 x1 x2) := by
  unfold f_M_read
  refine zj_aload_n 1 0 X kd_M_read_0 rfl rfl rfl ?_
  refine zj_iload_n 2 1 X kd_M_read_1 rfl rfl rfl ?_
  refine zj_iload_n 3 2 X kd_M_read_2 rfl rfl rfl ?_
  refine mc_M_83 6 X kd_M_read_3 (Nat.le_of_ble_eq_true rfl) (Nat.le_of_ble_eq_true rfl) (Nat.le_of_ble_eq_true rfl) rfl (fun p1 => ?_)
  refine zj_iconst 7 1 X kd_M_read_6 ki_1 rfl ?_
  refine mc_M_87 10 X kd_M_read_7 (Nat.le_of_ble_eq_true rfl) (Nat.le_of_ble_eq_true rfl) (Nat.le_of_ble_eq_true rfl) rfl (fun p2 => ?_)
  refine zj_istore_n 11 [(3, .int p2.1), (0, .ref (P.1 0)), (1, .int x1), (2, .int x2)] X kd_M_read_10 rfl (Nat.le_of_ble_eq_true rfl) rfl rfl ?_
  refine zj_iload_n 12 0 X kd_M_read_11 rfl rfl rfl ?_
  refine zj_if_ne 17 15 X kd_M_read_12 rfl rfl (fun _ => ?_) (fun _ => ?_)
  · refine zj_lconst 16 0 X kd_M_read_15 rfl rfl ?_
    exact zj_lret X kd_M_read_16
  · refine zj_iload_n 18 0 X kd_M_read_17 rfl rfl rfl ?_
    refine zj_iconst 19 2 X kd_M_read_18 ki_2 rfl ?_
    refine zj_icmp_ne 36 22 X kd_M_read_19 rfl rfl (fun _ => ?_) (fun _ => ?_)
    · refine zj_aload_n 23 1 X kd_M_read_22 rfl rfl rfl ?_
      refine zj_iload_n 24 2 X kd_M_read_23 rfl rfl rfl ?_
      refine zj_ldc 26 61440 X kd_M_read_24 kw_931 rfl ?_
      refine zj_isub 27 X kd_M_read_26 rfl ?_
      refine mc_M_92 30 X kd_M_read_27 (Nat.le_of_ble_eq_true rfl) (Nat.le_of_ble_eq_true rfl) (Nat.le_of_ble_eq_true rfl) rfl (fun p7 => ?_)
      refine zj_istore 32 [(4, .int p7.1), (3, .int p2.1), (0, .ref (P.1 0)), (1, .int x1), (2, .int x2)] X kd_M_read_30 (Nat.le_of_ble_eq_true rfl) rfl rfl ?_
      refine zj_iload 34 0 X kd_M_read_32 rfl rfl ?_
      refine zj_i2l 35 X kd_M_read_34 rfl ?_
      exact zj_lret X kd_M_read_35
    · refine zj_lconst 37 0 X kd_M_read_36 rfl rfl ?_
      refine zj_lstore 39 [(4, .long 0), (3, .int p2.1), (0, .ref (P.1 0)), (1, .int x1), (2, .int x2)] X kd_M_read_37 (Nat.le_of_ble_eq_true rfl) rfl rfl ?_
      refine zj_iconst 40 0 X kd_M_read_39 ki_0 rfl ?_
      refine zj_istore 42 [(6, .int 0), (4, .long 0), (3, .int p2.1), (0, .ref (P.1 0)), (1, .int x1), (2, .int x2)] X kd_M_read_40 (Nat.le_of_ble_eq_true rfl) rfl rfl ?_
      refine zj_loc [3, 4, 5, 1, 0] (L2 := [(0, .ref (P.1 0)), (1, .int x1), (2, .int x2), (4, .long 0), (6, .int 0)]) rfl ?_
      exact j_M_read_42 X 20 p2.2 x1 x2 0 0
theorem c_M_read {l : Launch} {P : ZP} (hV : ZVok (zmV P)) (s0 : ZS) (x1 : Int32) (x2 : Int32) {z : Int64 × ZS} (h : f_M_read s0 x1 x2 = some z) : zMl l y_M_read b_M_read 7 (some .long) 1 26 (zmV P) s0 [.ref (P.1 0), .int x1, .int x2] z :=
  zMl_of (by decide +kernel) rfl rfl (Nat.le_of_ble_eq_true rfl) hV (fun _ X => j_M_read X s0 x1 x2) h
theorem kc_M_106 : zCV "FrameMachineModel" 106 y_M_read b_M_read 7 (some .long) 2 := ⟨⟨kw_937, kw_939, ksel_38, kw_11, kw_940⟩, by decide +kernel, by decide +kernel, by decide +kernel⟩
theorem mc_M_106 {ρ : Type} {E : ZE} {P : ZP} {A : Nat → Prop} {cc : ByteArray} {nL : Nat} {ret : Option FieldType} {fr lo : Nat} {F : ρ → State → Prop} {pc : Nat} {L : List (Nat × Value)} {rest : List Value} {σ : ZS} {x1 : Int32} {x2 : Int32} {K : Int64 × ZS → Option ρ} (q : Nat) (X : ZX E (zmV P) A "FrameMachineModel" cc nL ret fr lo) (d : decode cc pc = .ok (.invokevirtual 106, 3)) (hfr : 1 + 1 ≤ fr) (hlo : 8 + (7 + 11) + 26 ≤ lo) (hr : (rest.map fun v => v.category).sum ≤ 8) (hq : pc + 3 = q) (kk : ∀ p : Int64 × ZS, ZJ E (zmV P) A nL F q L (.long p.1 :: rest) p.2 (K p)) : ZJ E (zmV P) A nL F pc L (.int x2 :: .int x1 :: .ref (P.1 0) :: rest) σ ((f_M_read σ x1 x2).bind K) :=
  zj_cVl q 0 0 (As := [.int x1, .int x2]) (rest := rest) X kc_M_106 hfr hlo (fun p h => c_M_read (zx_v X) σ x1 x2 h) rfl rfl rfl hr d hq kk
-- FrameMachineModel.write(IIJ)V
theorem kd_M_write_0 : decode b_M_write 0 = .ok (.aload_n 0, 1) := by decide +kernel
theorem kd_M_write_1 : decode b_M_write 1 = .ok (.iload_n 1, 1) := by decide +kernel
theorem kd_M_write_2 : decode b_M_write 2 = .ok (.iload_n 2, 1) := by decide +kernel
theorem kd_M_write_3 : decode b_M_write 3 = .ok (.invokestatic 83, 3) := by decide +kernel
theorem kd_M_write_6 : decode b_M_write 6 = .ok (.iconst 0, 1) := by decide +kernel
theorem kd_M_write_7 : decode b_M_write 7 = .ok (.invokevirtual 87, 3) := by decide +kernel
theorem kd_M_write_10 : decode b_M_write 10 = .ok (.istore 5, 2) := by decide +kernel
theorem kd_M_write_12 : decode b_M_write 12 = .ok (.iload 5, 2) := by decide +kernel
theorem kd_M_write_14 : decode b_M_write 14 = .ok (.iconst 2, 1) := by decide +kernel
theorem kd_M_write_15 : decode b_M_write 15 = .ok (.if_icmp .ne 17, 3) := by decide +kernel
theorem kd_M_write_18 : decode b_M_write 18 = .ok (.aload_n 0, 1) := by decide +kernel
theorem kd_M_write_19 : decode b_M_write 19 = .ok (.iload_n 1, 1) := by decide +kernel
theorem kd_M_write_20 : decode b_M_write 20 = .ok (.ldc 91, 2) := by decide +kernel
theorem kd_M_write_22 : decode b_M_write 22 = .ok (.isub, 1) := by decide +kernel
theorem kd_M_write_23 : decode b_M_write 23 = .ok (.lload_n 3, 1) := by decide +kernel
theorem kd_M_write_24 : decode b_M_write 24 = .ok (.ldc2_w 97, 3) := by decide +kernel
theorem kd_M_write_27 : decode b_M_write 27 = .ok (.land, 1) := by decide +kernel
theorem kd_M_write_28 : decode b_M_write 28 = .ok (.l2i, 1) := by decide +kernel
theorem kd_M_write_29 : decode b_M_write 29 = .ok (.invokevirtual 99, 3) := by decide +kernel
theorem kd_M_write_32 : decode b_M_write 32 = .ok (.iconst 0, 1) := by decide +kernel
theorem kd_M_write_33 : decode b_M_write 33 = .ok (.istore 6, 2) := by decide +kernel
theorem kd_M_write_35 : decode b_M_write 35 = .ok (.iload 6, 2) := by decide +kernel
theorem kd_M_write_37 : decode b_M_write 37 = .ok (.iload_n 2, 1) := by decide +kernel
theorem kd_M_write_38 : decode b_M_write 38 = .ok (.invokestatic 83, 3) := by decide +kernel
theorem kd_M_write_41 : decode b_M_write 41 = .ok (.if_icmp .ge 43, 3) := by decide +kernel
theorem kd_M_write_44 : decode b_M_write 44 = .ok (.iload 5, 2) := by decide +kernel
theorem kd_M_write_46 : decode b_M_write 46 = .ok (.iconst 1, 1) := by decide +kernel
theorem kd_M_write_47 : decode b_M_write 47 = .ok (.if_icmp .ne 37, 3) := by decide +kernel
theorem kd_M_write_50 : decode b_M_write 50 = .ok (.aload_n 0, 1) := by decide +kernel
theorem kd_M_write_51 : decode b_M_write 51 = .ok (.getfield 7, 3) := by decide +kernel
theorem kd_M_write_54 : decode b_M_write 54 = .ok (.iload_n 1, 1) := by decide +kernel
theorem kd_M_write_55 : decode b_M_write 55 = .ok (.iload 6, 2) := by decide +kernel
theorem kd_M_write_57 : decode b_M_write 57 = .ok (.iadd, 1) := by decide +kernel
theorem kd_M_write_58 : decode b_M_write 58 = .ok (.lload_n 3, 1) := by decide +kernel
theorem kd_M_write_59 : decode b_M_write 59 = .ok (.bipush 8, 2) := by decide +kernel
theorem kd_M_write_61 : decode b_M_write 61 = .ok (.iload_n 2, 1) := by decide +kernel
theorem kd_M_write_62 : decode b_M_write 62 = .ok (.invokestatic 83, 3) := by decide +kernel
theorem kd_M_write_65 : decode b_M_write 65 = .ok (.iconst 1, 1) := by decide +kernel
theorem kd_M_write_66 : decode b_M_write 66 = .ok (.isub, 1) := by decide +kernel
theorem kd_M_write_67 : decode b_M_write 67 = .ok (.iload 6, 2) := by decide +kernel
theorem kd_M_write_69 : decode b_M_write 69 = .ok (.isub, 1) := by decide +kernel
theorem kd_M_write_70 : decode b_M_write 70 = .ok (.imul, 1) := by decide +kernel
theorem kd_M_write_71 : decode b_M_write 71 = .ok (.lshr, 1) := by decide +kernel
theorem kd_M_write_72 : decode b_M_write 72 = .ok (.ldc2_w 97, 3) := by decide +kernel
theorem kd_M_write_75 : decode b_M_write 75 = .ok (.land, 1) := by decide +kernel
theorem kd_M_write_76 : decode b_M_write 76 = .ok (.l2i, 1) := by decide +kernel
theorem kd_M_write_77 : decode b_M_write 77 = .ok (.iastore, 1) := by decide +kernel
theorem kd_M_write_78 : decode b_M_write 78 = .ok (.iinc 6 1, 3) := by decide +kernel
theorem kd_M_write_81 : decode b_M_write 81 = .ok (.goto (-46), 3) := by decide +kernel
theorem kd_M_write_84 : decode b_M_write 84 = .ok (.return_, 1) := by decide +kernel
noncomputable def f_M_write_35 : Nat → ZS → Int32 → Int32 → Int64 → Int32 → Int32 → Option (ZS)
  | 0, _, _, _, _, _, _ => none
  | n+1, s0, l1, l2, l3, l5, l6 =>
    (f_M_bytes s0 l2).bind fun p3 =>
    if p3.1 ≤ l6 then
      some p3.2
    else
      if l5 = 1 then
        (f_M_bytes p3.2 l2).bind fun p4 =>
        if (l1 + l6) < 0 ∨ 1024 ≤ (l1 + l6).toNatClampNeg then none else
        zs_nm (zs_up p4.2 1 (l1 + l6).toNatClampNeg (((zo_lshr l3 (8 * ((p4.1 - 1) - l6))) &&& 255).toInt32)) fun s5 =>
        zs_nm (l6 + 1) fun v6 =>
        (f_M_write_35 n) s5 l1 l2 l3 l5 v6
      else
        some p3.2
noncomputable def f_M_write_32 (s0 : ZS) (l1 : Int32) (l2 : Int32) (l3 : Int64) (l5 : Int32) : Option (ZS) :=
  f_M_write_35 20 s0 l1 l2 l3 l5 0
noncomputable def f_M_write (s0 : ZS) (x1 : Int32) (x2 : Int32) (x3 : Int64) : Option (ZS) :=
  (f_M_bytes s0 x2).bind fun p1 =>
  (f_M_allowed p1.2 x1 p1.1 0).bind fun p2 =>
  if p2.1 = 2 then
    (f_M_setDevice p2.2 (x1 - 61440) ((x3 &&& 255).toInt32)).bind fun s7 =>
    f_M_write_32 s7 x1 x2 x3 p2.1
  else
    f_M_write_32 p2.2 x1 x2 x3 p2.1
theorem j_M_write_35 {P : ZP} {E : ZE} {A : Nat → Prop} (X : ZX E (zmV P) A "FrameMachineModel" b_M_write 7 none 1 26) : ∀ (n : Nat) (s0 : ZS) (l1 : Int32) (l2 : Int32) (l3 : Int64) (l5 : Int32) (l6 : Int32), ZJ E (zmV P) A 7 (zFv E (zmV P) A) 35 [(0, .ref (P.1 0)), (1, .int l1), (2, .int l2), (3, .long l3), (5, .int l5), (6, .int l6)] [] s0 (f_M_write_35 n s0 l1 l2 l3 l5 l6) := by
  intro n
  induction n with
  | zero => intro s0 l1 l2 l3 l5 l6; rw [f_M_write_35]; exact zj_none
  | succ n hK =>
    intro s0 l1 l2 l3 l5 l6
    rw [f_M_write_35]
    refine zj_iload 37 5 X kd_M_write_35 rfl rfl ?_
    refine zj_iload_n 38 2 X kd_M_write_37 rfl rfl rfl ?_
    refine mc_M_83 41 X kd_M_write_38 (Nat.le_of_ble_eq_true rfl) (Nat.le_of_ble_eq_true rfl) (Nat.le_of_ble_eq_true rfl) rfl (fun p3 => ?_)
    refine zj_icmp_ge 84 44 X kd_M_write_41 rfl rfl (fun _ => ?_) (fun _ => ?_)
    · exact zj_vret X kd_M_write_84
    · refine zj_iload 46 4 X kd_M_write_44 rfl rfl ?_
      refine zj_iconst 47 1 X kd_M_write_46 ki_1 rfl ?_
      refine zj_icmp_ne 84 50 X kd_M_write_47 rfl rfl (fun _ => ?_) (fun _ => ?_)
      · refine zj_aload_n 51 0 X kd_M_write_50 rfl rfl rfl ?_
        refine gf_M_7 54 X kd_M_write_51 rfl ?_
        refine zj_iload_n 55 1 X kd_M_write_54 rfl rfl rfl ?_
        refine zj_iload 57 5 X kd_M_write_55 rfl rfl ?_
        refine zj_iadd 58 X kd_M_write_57 rfl ?_
        refine zj_lload_n 59 3 X kd_M_write_58 rfl rfl rfl ?_
        refine zj_bipush 61 8 X kd_M_write_59 kb_8 rfl ?_
        refine zj_iload_n 62 2 X kd_M_write_61 rfl rfl rfl ?_
        refine mc_M_83 65 X kd_M_write_62 (Nat.le_of_ble_eq_true rfl) (Nat.le_of_ble_eq_true rfl) (Nat.le_of_ble_eq_true rfl) rfl (fun p4 => ?_)
        refine zj_iconst 66 1 X kd_M_write_65 ki_1 rfl ?_
        refine zj_isub 67 X kd_M_write_66 rfl ?_
        refine zj_iload 69 5 X kd_M_write_67 rfl rfl ?_
        refine zj_isub 70 X kd_M_write_69 rfl ?_
        refine zj_imul 71 X kd_M_write_70 rfl ?_
        refine zj_lshr 72 X kd_M_write_71 rfl ?_
        refine zj_ldc2 75 255 X kd_M_write_72 kw_932 rfl ?_
        refine zj_land 76 X kd_M_write_75 rfl ?_
        refine zj_l2i 77 X kd_M_write_76 rfl ?_
        refine zj_ng (fun hg => ?_)
        refine as_M_1 78 X kd_M_write_77 hg rfl ?_
        refine zj_nms (fun s5 => ?_)
        refine zj_iinc 81 5 1 (fun v6 => [(6, .int v6), (0, .ref (P.1 0)), (1, .int l1), (2, .int l2), (3, .long l3), (5, .int l5)]) X kd_M_write_78 ki_1 rfl (Nat.le_of_ble_eq_true rfl) (fun _ => rfl) rfl (fun v6 => ?_)
        refine zj_goto 35 X kd_M_write_81 rfl ?_
        refine zj_loc [1, 2, 3, 4, 5, 0] (L2 := [(0, .ref (P.1 0)), (1, .int l1), (2, .int l2), (3, .long l3), (5, .int l5), (6, .int v6)]) rfl ?_
        exact hK s5 l1 l2 l3 l5 v6
      · exact zj_vret X kd_M_write_84
theorem j_M_write_32 {P : ZP} {E : ZE} {A : Nat → Prop} (X : ZX E (zmV P) A "FrameMachineModel" b_M_write 7 none 1 26) (s0 : ZS) (l1 : Int32) (l2 : Int32) (l3 : Int64) (l5 : Int32) : ZJ E (zmV P) A 7 (zFv E (zmV P) A) 32 [(0, .ref (P.1 0)), (1, .int l1), (2, .int l2), (3, .long l3), (5, .int l5)] [] s0 (f_M_write_32 s0 l1 l2 l3 l5) := by
  unfold f_M_write_32
  refine zj_iconst 33 0 X kd_M_write_32 ki_0 rfl ?_
  refine zj_istore 35 [(6, .int 0), (0, .ref (P.1 0)), (1, .int l1), (2, .int l2), (3, .long l3), (5, .int l5)] X kd_M_write_33 (Nat.le_of_ble_eq_true rfl) rfl rfl ?_
  refine zj_loc [1, 2, 3, 4, 5, 0] (L2 := [(0, .ref (P.1 0)), (1, .int l1), (2, .int l2), (3, .long l3), (5, .int l5), (6, .int 0)]) rfl ?_
  exact j_M_write_35 X 20 s0 l1 l2 l3 l5 0
theorem j_M_write {P : ZP} {E : ZE} {A : Nat → Prop} (X : ZX E (zmV P) A "FrameMachineModel" b_M_write 7 none 1 26) (s0 : ZS) (x1 : Int32) (x2 : Int32) (x3 : Int64) : ZJ E (zmV P) A 7 (zFv E (zmV P) A) 0 [(0, .ref (P.1 0)), (1, .int x1), (2, .int x2), (3, .long x3)] [] s0 (f_M_write s0 x1 x2 x3) := by
  unfold f_M_write
  refine zj_aload_n 1 0 X kd_M_write_0 rfl rfl rfl ?_
  refine zj_iload_n 2 1 X kd_M_write_1 rfl rfl rfl ?_
  refine zj_iload_n 3 2 X kd_M_write_2 rfl rfl rfl ?_
  refine mc_M_83 6 X kd_M_write_3 (Nat.le_of_ble_eq_true rfl) (Nat.le_of_ble_eq_true rfl) (Nat.le_of_ble_eq_true rfl) rfl (fun p1 => ?_)
  refine zj_iconst 7 0 X kd_M_write_6 ki_0 rfl ?_
  refine mc_M_87 10 X kd_M_write_7 (Nat.le_of_ble_eq_true rfl) (Nat.le_of_ble_eq_true rfl) (Nat.le_of_ble_eq_true rfl) rfl (fun p2 => ?_)
  refine zj_istore 12 [(5, .int p2.1), (0, .ref (P.1 0)), (1, .int x1), (2, .int x2), (3, .long x3)] X kd_M_write_10 (Nat.le_of_ble_eq_true rfl) rfl rfl ?_
  refine zj_iload 14 0 X kd_M_write_12 rfl rfl ?_
  refine zj_iconst 15 2 X kd_M_write_14 ki_2 rfl ?_
  refine zj_icmp_ne 32 18 X kd_M_write_15 rfl rfl (fun _ => ?_) (fun _ => ?_)
  · refine zj_aload_n 19 1 X kd_M_write_18 rfl rfl rfl ?_
    refine zj_iload_n 20 2 X kd_M_write_19 rfl rfl rfl ?_
    refine zj_ldc 22 61440 X kd_M_write_20 kw_931 rfl ?_
    refine zj_isub 23 X kd_M_write_22 rfl ?_
    refine zj_lload_n 24 4 X kd_M_write_23 rfl rfl rfl ?_
    refine zj_ldc2 27 255 X kd_M_write_24 kw_932 rfl ?_
    refine zj_land 28 X kd_M_write_27 rfl ?_
    refine zj_l2i 29 X kd_M_write_28 rfl ?_
    refine mc_M_99 32 X kd_M_write_29 (Nat.le_of_ble_eq_true rfl) (Nat.le_of_ble_eq_true rfl) (Nat.le_of_ble_eq_true rfl) rfl (fun s7 => ?_)
    refine zj_loc [1, 2, 3, 4, 0] (L2 := [(0, .ref (P.1 0)), (1, .int x1), (2, .int x2), (3, .long x3), (5, .int p2.1)]) rfl ?_
    exact j_M_write_32 X s7 x1 x2 x3 p2.1
  · refine zj_loc [1, 2, 3, 4, 0] (L2 := [(0, .ref (P.1 0)), (1, .int x1), (2, .int x2), (3, .long x3), (5, .int p2.1)]) rfl ?_
    exact j_M_write_32 X p2.2 x1 x2 x3 p2.1
theorem c_M_write {l : Launch} {P : ZP} (hV : ZVok (zmV P)) (s0 : ZS) (x1 : Int32) (x2 : Int32) (x3 : Int64) {z : ZS} (h : f_M_write s0 x1 x2 x3 = some z) : zMv l y_M_write b_M_write 7 none 1 26 (zmV P) s0 [.ref (P.1 0), .int x1, .int x2, .long x3] z :=
  zMv_of (by decide +kernel) rfl rfl (Nat.le_of_ble_eq_true rfl) hV (fun _ X => j_M_write X s0 x1 x2 x3) h
theorem kc_M_114 : zCV "FrameMachineModel" 114 y_M_write b_M_write 7 none 3 := ⟨⟨kw_919, kw_921, ksel_35, kw_11, kw_922⟩, by decide +kernel, by decide +kernel, by decide +kernel⟩
theorem mc_M_114 {ρ : Type} {E : ZE} {P : ZP} {A : Nat → Prop} {cc : ByteArray} {nL : Nat} {ret : Option FieldType} {fr lo : Nat} {F : ρ → State → Prop} {pc : Nat} {L : List (Nat × Value)} {rest : List Value} {σ : ZS} {x1 : Int32} {x2 : Int32} {x3 : Int64} {K : ZS → Option ρ} (q : Nat) (X : ZX E (zmV P) A "FrameMachineModel" cc nL ret fr lo) (d : decode cc pc = .ok (.invokevirtual 114, 3)) (hfr : 1 + 1 ≤ fr) (hlo : 8 + (7 + 11) + 26 ≤ lo) (hr : (rest.map fun v => v.category).sum ≤ 8) (hq : pc + 3 = q) (kk : ∀ p : ZS, ZJ E (zmV P) A nL F q L (rest) p (K p)) : ZJ E (zmV P) A nL F pc L (.long x3 :: .int x2 :: .int x1 :: .ref (P.1 0) :: rest) σ ((f_M_write σ x1 x2 x3).bind K) :=
  zj_cVv q 0 0 (As := [.int x1, .int x2, .long x3]) (rest := rest) X kc_M_114 hfr hlo (fun p h => c_M_write (zx_v X) σ x1 x2 x3 h) rfl rfl rfl hr d hq kk
