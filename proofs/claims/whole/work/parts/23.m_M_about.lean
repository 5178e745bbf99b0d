-- FrameMachineModel.about(I)I
theorem kd_M_about_0 : decode b_M_about 0 = .ok (.aload_n 0, 1) := by decide +kernel
theorem kd_M_about_1 : decode b_M_about 1 = .ok (.iconst 0, 1) := by decide +kernel
theorem kd_M_about_2 : decode b_M_about 2 = .ok (.putfield 38, 3) := by decide +kernel
theorem kd_M_about_5 : decode b_M_about 5 = .ok (.iload_n 1, 1) := by decide +kernel
theorem kd_M_about_6 : decode b_M_about 6 = .ok (.tableswitch 68 0 5 #[38, 43, 48, 53, 58, 63], 38) := by decide +kernel
theorem kd_M_about_44 : decode b_M_about 44 = .ok (.aload_n 0, 1) := by decide +kernel
theorem kd_M_about_45 : decode b_M_about 45 = .ok (.getfield 229, 3) := by decide +kernel
theorem kd_M_about_48 : decode b_M_about 48 = .ok (.ireturn, 1) := by decide +kernel
theorem kd_M_about_49 : decode b_M_about 49 = .ok (.aload_n 0, 1) := by decide +kernel
theorem kd_M_about_50 : decode b_M_about 50 = .ok (.getfield 281, 3) := by decide +kernel
theorem kd_M_about_53 : decode b_M_about 53 = .ok (.ireturn, 1) := by decide +kernel
theorem kd_M_about_54 : decode b_M_about 54 = .ok (.aload_n 0, 1) := by decide +kernel
theorem kd_M_about_55 : decode b_M_about 55 = .ok (.getfield 61, 3) := by decide +kernel
theorem kd_M_about_58 : decode b_M_about 58 = .ok (.ireturn, 1) := by decide +kernel
theorem kd_M_about_59 : decode b_M_about 59 = .ok (.aload_n 0, 1) := by decide +kernel
theorem kd_M_about_60 : decode b_M_about 60 = .ok (.getfield 26, 3) := by decide +kernel
theorem kd_M_about_63 : decode b_M_about 63 = .ok (.ireturn, 1) := by decide +kernel
theorem kd_M_about_64 : decode b_M_about 64 = .ok (.aload_n 0, 1) := by decide +kernel
theorem kd_M_about_65 : decode b_M_about 65 = .ok (.getfield 256, 3) := by decide +kernel
theorem kd_M_about_68 : decode b_M_about 68 = .ok (.ireturn, 1) := by decide +kernel
theorem kd_M_about_69 : decode b_M_about 69 = .ok (.aload_n 0, 1) := by decide +kernel
theorem kd_M_about_70 : decode b_M_about 70 = .ok (.getfield 259, 3) := by decide +kernel
theorem kd_M_about_73 : decode b_M_about 73 = .ok (.ireturn, 1) := by decide +kernel
theorem kd_M_about_74 : decode b_M_about 74 = .ok (.iconst (-1), 1) := by decide +kernel
theorem kd_M_about_75 : decode b_M_about 75 = .ok (.ireturn, 1) := by decide +kernel
noncomputable def f_M_about (s0 : ZS) (x1 : Int32) : Option (Int32 × ZS) :=
  zs_nm (zs_up s0 0 0 0) fun s1 =>
  if x1 = 0 then
    some (s1 0 11, s1)
  else if x1 = 1 then
    some (s1 0 12, s1)
  else if x1 = 2 then
    some (s1 0 30, s1)
  else if x1 = 3 then
    some (s1 0 22, s1)
  else if x1 = 4 then
    some (s1 0 13, s1)
  else if x1 = 5 then
    some (s1 0 14, s1)
  else 
    some ((-1), s1)
theorem j_M_about {P : ZP} {E : ZE} {A : Nat → Prop} (X : ZX E (zmV P) A "FrameMachineModel" b_M_about 2 (some .int) 0 0) (s0 : ZS) (x1 : Int32) : ZJ E (zmV P) A 2 (zFi E (zmV P) A) 0 [(0, .ref (P.1 0)), (1, .int x1)] [] s0 (f_M_about s0 x1) := by
  unfold f_M_about
  refine zj_aload_n 1 0 X kd_M_about_0 rfl rfl rfl ?_
  refine zj_iconst 2 0 X kd_M_about_1 ki_0 rfl ?_
  refine pf_M_38 5 X kd_M_about_2 rfl ?_
  refine zj_nms (fun s1 => ?_)
  refine zj_iload_n 6 1 X kd_M_about_5 rfl rfl rfl ?_
  refine zj_tcase 44 X kd_M_about_6 (by decide) (by decide) rfl rfl (fun _ => ?_) (fun h0 => ?_)
  · refine zj_aload_n 45 0 X kd_M_about_44 rfl rfl rfl ?_
    refine gf_M_229 48 X kd_M_about_45 rfl ?_
    exact zj_iret X kd_M_about_48
  refine zj_tcase 49 X kd_M_about_6 (by decide) (by decide) rfl rfl (fun _ => ?_) (fun h1 => ?_)
  · refine zj_aload_n 50 0 X kd_M_about_49 rfl rfl rfl ?_
    refine gf_M_281 53 X kd_M_about_50 rfl ?_
    exact zj_iret X kd_M_about_53
  refine zj_tcase 54 X kd_M_about_6 (by decide) (by decide) rfl rfl (fun _ => ?_) (fun h2 => ?_)
  · refine zj_aload_n 55 0 X kd_M_about_54 rfl rfl rfl ?_
    refine gf_M_61 58 X kd_M_about_55 rfl ?_
    exact zj_iret X kd_M_about_58
  refine zj_tcase 59 X kd_M_about_6 (by decide) (by decide) rfl rfl (fun _ => ?_) (fun h3 => ?_)
  · refine zj_aload_n 60 0 X kd_M_about_59 rfl rfl rfl ?_
    refine gf_M_26 63 X kd_M_about_60 rfl ?_
    exact zj_iret X kd_M_about_63
  refine zj_tcase 64 X kd_M_about_6 (by decide) (by decide) rfl rfl (fun _ => ?_) (fun h4 => ?_)
  · refine zj_aload_n 65 0 X kd_M_about_64 rfl rfl rfl ?_
    refine gf_M_256 68 X kd_M_about_65 rfl ?_
    exact zj_iret X kd_M_about_68
  refine zj_tcase 69 X kd_M_about_6 (by decide) (by decide) rfl rfl (fun _ => ?_) (fun h5 => ?_)
  · refine zj_aload_n 70 0 X kd_M_about_69 rfl rfl rfl ?_
    refine gf_M_259 73 X kd_M_about_70 rfl ?_
    exact zj_iret X kd_M_about_73
  refine zj_tdef 74 X kd_M_about_6 (by have h0 := lv_neT (a := 0) h0 rfl; have h1 := lv_neT (a := 1) h1 rfl; have h2 := lv_neT (a := 2) h2 rfl; have h3 := lv_neT (a := 3) h3 rfl; have h4 := lv_neT (a := 4) h4 rfl; have h5 := lv_neT (a := 5) h5 rfl; omega) rfl ?_
  refine zj_iconst 75 ((-1)) X kd_M_about_74 ki_m1 rfl ?_
  exact zj_iret X kd_M_about_75
theorem c_M_about {l : Launch} {P : ZP} (hV : ZVok (zmV P)) (s0 : ZS) (x1 : Int32) {z : Int32 × ZS} (h : f_M_about s0 x1 = some z) : zMi l y_M_about b_M_about 2 (some .int) 0 0 (zmV P) s0 [.ref (P.1 0), .int x1] z :=
  zMi_of (by decide +kernel) rfl rfl (Nat.le_of_ble_eq_true rfl) hV (fun _ X => j_M_about X s0 x1) h
