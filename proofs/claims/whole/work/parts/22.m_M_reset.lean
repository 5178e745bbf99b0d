-- FrameMachineModel.reset()I
theorem kd_M_reset_0 : decode b_M_reset 0 = .ok (.aload_n 0, 1) := by decide +kernel
theorem kd_M_reset_1 : decode b_M_reset 1 = .ok (.iconst 0, 1) := by decide +kernel
theorem kd_M_reset_2 : decode b_M_reset 2 = .ok (.putfield 38, 3) := by decide +kernel
theorem kd_M_reset_5 : decode b_M_reset 5 = .ok (.aload_n 0, 1) := by decide +kernel
theorem kd_M_reset_6 : decode b_M_reset 6 = .ok (.iconst 0, 1) := by decide +kernel
theorem kd_M_reset_7 : decode b_M_reset 7 = .ok (.putfield 229, 3) := by decide +kernel
theorem kd_M_reset_10 : decode b_M_reset 10 = .ok (.aload_n 0, 1) := by decide +kernel
theorem kd_M_reset_11 : decode b_M_reset 11 = .ok (.iconst 1, 1) := by decide +kernel
theorem kd_M_reset_12 : decode b_M_reset 12 = .ok (.invokevirtual 140, 3) := by decide +kernel
theorem kd_M_reset_15 : decode b_M_reset 15 = .ok (.aload_n 0, 1) := by decide +kernel
theorem kd_M_reset_16 : decode b_M_reset 16 = .ok (.iconst 0, 1) := by decide +kernel
theorem kd_M_reset_17 : decode b_M_reset 17 = .ok (.putfield 119, 3) := by decide +kernel
theorem kd_M_reset_20 : decode b_M_reset 20 = .ok (.aload_n 0, 1) := by decide +kernel
theorem kd_M_reset_21 : decode b_M_reset 21 = .ok (.bipush 7, 2) := by decide +kernel
theorem kd_M_reset_23 : decode b_M_reset 23 = .ok (.putfield 23, 3) := by decide +kernel
theorem kd_M_reset_26 : decode b_M_reset 26 = .ok (.aload_n 0, 1) := by decide +kernel
theorem kd_M_reset_27 : decode b_M_reset 27 = .ok (.iconst 0, 1) := by decide +kernel
theorem kd_M_reset_28 : decode b_M_reset 28 = .ok (.putfield 64, 3) := by decide +kernel
theorem kd_M_reset_31 : decode b_M_reset 31 = .ok (.aload_n 0, 1) := by decide +kernel
theorem kd_M_reset_32 : decode b_M_reset 32 = .ok (.getfield 16, 3) := by decide +kernel
theorem kd_M_reset_35 : decode b_M_reset 35 = .ok (.bipush 7, 2) := by decide +kernel
theorem kd_M_reset_37 : decode b_M_reset 37 = .ok (.aload_n 0, 1) := by decide +kernel
theorem kd_M_reset_38 : decode b_M_reset 38 = .ok (.iconst 0, 1) := by decide +kernel
theorem kd_M_reset_39 : decode b_M_reset 39 = .ok (.iconst 2, 1) := by decide +kernel
theorem kd_M_reset_40 : decode b_M_reset 40 = .ok (.invokevirtual 106, 3) := by decide +kernel
theorem kd_M_reset_43 : decode b_M_reset 43 = .ok (.l2i, 1) := by decide +kernel
theorem kd_M_reset_44 : decode b_M_reset 44 = .ok (.iastore, 1) := by decide +kernel
theorem kd_M_reset_45 : decode b_M_reset 45 = .ok (.aload_n 0, 1) := by decide +kernel
theorem kd_M_reset_46 : decode b_M_reset 46 = .ok (.aload_n 0, 1) := by decide +kernel
theorem kd_M_reset_47 : decode b_M_reset 47 = .ok (.iconst 4, 1) := by decide +kernel
theorem kd_M_reset_48 : decode b_M_reset 48 = .ok (.iconst 2, 1) := by decide +kernel
theorem kd_M_reset_49 : decode b_M_reset 49 = .ok (.invokevirtual 106, 3) := by decide +kernel
theorem kd_M_reset_52 : decode b_M_reset 52 = .ok (.l2i, 1) := by decide +kernel
theorem kd_M_reset_53 : decode b_M_reset 53 = .ok (.putfield 103, 3) := by decide +kernel
theorem kd_M_reset_56 : decode b_M_reset 56 = .ok (.aload_n 0, 1) := by decide +kernel
theorem kd_M_reset_57 : decode b_M_reset 57 = .ok (.sipush 256, 3) := by decide +kernel
theorem kd_M_reset_60 : decode b_M_reset 60 = .ok (.putfield 26, 3) := by decide +kernel
theorem kd_M_reset_63 : decode b_M_reset 63 = .ok (.aload_n 0, 1) := by decide +kernel
theorem kd_M_reset_64 : decode b_M_reset 64 = .ok (.iconst 0, 1) := by decide +kernel
theorem kd_M_reset_65 : decode b_M_reset 65 = .ok (.putfield 55, 3) := by decide +kernel
theorem kd_M_reset_68 : decode b_M_reset 68 = .ok (.aload_n 0, 1) := by decide +kernel
theorem kd_M_reset_69 : decode b_M_reset 69 = .ok (.iconst 0, 1) := by decide +kernel
theorem kd_M_reset_70 : decode b_M_reset 70 = .ok (.putfield 45, 3) := by decide +kernel
theorem kd_M_reset_73 : decode b_M_reset 73 = .ok (.aload_n 0, 1) := by decide +kernel
theorem kd_M_reset_74 : decode b_M_reset 74 = .ok (.iconst 0, 1) := by decide +kernel
theorem kd_M_reset_75 : decode b_M_reset 75 = .ok (.putfield 49, 3) := by decide +kernel
theorem kd_M_reset_78 : decode b_M_reset 78 = .ok (.aload_n 0, 1) := by decide +kernel
theorem kd_M_reset_79 : decode b_M_reset 79 = .ok (.iconst (-1), 1) := by decide +kernel
theorem kd_M_reset_80 : decode b_M_reset 80 = .ok (.putfield 29, 3) := by decide +kernel
theorem kd_M_reset_83 : decode b_M_reset 83 = .ok (.aload_n 0, 1) := by decide +kernel
theorem kd_M_reset_84 : decode b_M_reset 84 = .ok (.iconst 0, 1) := by decide +kernel
theorem kd_M_reset_85 : decode b_M_reset 85 = .ok (.putfield 52, 3) := by decide +kernel
theorem kd_M_reset_88 : decode b_M_reset 88 = .ok (.aload_n 0, 1) := by decide +kernel
theorem kd_M_reset_89 : decode b_M_reset 89 = .ok (.iconst (-1), 1) := by decide +kernel
theorem kd_M_reset_90 : decode b_M_reset 90 = .ok (.putfield 32, 3) := by decide +kernel
theorem kd_M_reset_93 : decode b_M_reset 93 = .ok (.aload_n 0, 1) := by decide +kernel
theorem kd_M_reset_94 : decode b_M_reset 94 = .ok (.getfield 103, 3) := by decide +kernel
theorem kd_M_reset_97 : decode b_M_reset 97 = .ok (.ireturn, 1) := by decide +kernel
noncomputable def f_M_reset (s0 : ZS)  : Option (Int32 × ZS) :=
  zs_nm (zs_up s0 0 0 0) fun s1 =>
  zs_nm (zs_up s1 0 11 0) fun s2 =>
  (f_M_setAbove s2 1).bind fun s3 =>
  zs_nm (zs_up s3 0 3 0) fun s4 =>
  zs_nm (zs_up s4 0 5 7) fun s5 =>
  zs_nm (zs_up s5 0 15 0) fun s6 =>
  (f_M_read s6 0 2).bind fun p7 =>
  if (7 : Int32) < 0 ∨ 8 ≤ (7 : Int32).toNatClampNeg then none else
  zs_nm (zs_up p7.2 3 (7 : Int32).toNatClampNeg (p7.1.toInt32)) fun s8 =>
  (f_M_read s8 4 2).bind fun p9 =>
  zs_nm (zs_up p9.2 0 2 (p9.1.toInt32)) fun s10 =>
  zs_nm (zs_up s10 0 22 256) fun s11 =>
  zs_nm (zs_up s11 0 23 0) fun s12 =>
  zs_nm (zs_up s12 0 24 0) fun s13 =>
  zs_nm (zs_up s13 0 25 0) fun s14 =>
  zs_nm (zs_up s14 0 26 ((-1))) fun s15 =>
  zs_nm (zs_up s15 0 27 0) fun s16 =>
  zs_nm (zs_up s16 0 28 ((-1))) fun s17 =>
  some (s17 0 2, s17)
theorem j_M_reset {P : ZP} {E : ZE} {A : Nat → Prop} (X : ZX E (zmV P) A "FrameMachineModel" b_M_reset 1 (some .int) 2 52) (s0 : ZS)  : ZJ E (zmV P) A 1 (zFi E (zmV P) A) 0 [(0, .ref (P.1 0))] [] s0 (f_M_reset s0) := by
  unfold f_M_reset
  refine zj_aload_n 1 0 X kd_M_reset_0 rfl rfl rfl ?_
  refine zj_iconst 2 0 X kd_M_reset_1 ki_0 rfl ?_
  refine pf_M_38 5 X kd_M_reset_2 rfl ?_
  refine zj_nms (fun s1 => ?_)
  refine zj_aload_n 6 0 X kd_M_reset_5 rfl rfl rfl ?_
  refine zj_iconst 7 0 X kd_M_reset_6 ki_0 rfl ?_
  refine pf_M_229 10 X kd_M_reset_7 rfl ?_
  refine zj_nms (fun s2 => ?_)
  refine zj_aload_n 11 0 X kd_M_reset_10 rfl rfl rfl ?_
  refine zj_iconst 12 1 X kd_M_reset_11 ki_1 rfl ?_
  refine mc_M_140 15 X kd_M_reset_12 (Nat.le_of_ble_eq_true rfl) (Nat.le_of_ble_eq_true rfl) (Nat.le_of_ble_eq_true rfl) rfl (fun s3 => ?_)
  refine zj_aload_n 16 0 X kd_M_reset_15 rfl rfl rfl ?_
  refine zj_iconst 17 0 X kd_M_reset_16 ki_0 rfl ?_
  refine pf_M_119 20 X kd_M_reset_17 rfl ?_
  refine zj_nms (fun s4 => ?_)
  refine zj_aload_n 21 0 X kd_M_reset_20 rfl rfl rfl ?_
  refine zj_bipush 23 7 X kd_M_reset_21 kb_7 rfl ?_
  refine pf_M_23 26 X kd_M_reset_23 rfl ?_
  refine zj_nms (fun s5 => ?_)
  refine zj_aload_n 27 0 X kd_M_reset_26 rfl rfl rfl ?_
  refine zj_iconst 28 0 X kd_M_reset_27 ki_0 rfl ?_
  refine pf_M_64 31 X kd_M_reset_28 rfl ?_
  refine zj_nms (fun s6 => ?_)
  refine zj_aload_n 32 0 X kd_M_reset_31 rfl rfl rfl ?_
  refine gf_M_16 35 X kd_M_reset_32 rfl ?_
  refine zj_bipush 37 7 X kd_M_reset_35 kb_7 rfl ?_
  refine zj_aload_n 38 0 X kd_M_reset_37 rfl rfl rfl ?_
  refine zj_iconst 39 0 X kd_M_reset_38 ki_0 rfl ?_
  refine zj_iconst 40 2 X kd_M_reset_39 ki_2 rfl ?_
  refine mc_M_106 43 X kd_M_reset_40 (Nat.le_of_ble_eq_true rfl) (Nat.le_of_ble_eq_true rfl) (Nat.le_of_ble_eq_true rfl) rfl (fun p7 => ?_)
  refine zj_l2i 44 X kd_M_reset_43 rfl ?_
  refine zj_ng (fun hg => ?_)
  refine as_M_3 45 X kd_M_reset_44 hg rfl ?_
  refine zj_nms (fun s8 => ?_)
  refine zj_aload_n 46 0 X kd_M_reset_45 rfl rfl rfl ?_
  refine zj_aload_n 47 0 X kd_M_reset_46 rfl rfl rfl ?_
  refine zj_iconst 48 4 X kd_M_reset_47 ki_4 rfl ?_
  refine zj_iconst 49 2 X kd_M_reset_48 ki_2 rfl ?_
  refine mc_M_106 52 X kd_M_reset_49 (Nat.le_of_ble_eq_true rfl) (Nat.le_of_ble_eq_true rfl) (Nat.le_of_ble_eq_true rfl) rfl (fun p9 => ?_)
  refine zj_l2i 53 X kd_M_reset_52 rfl ?_
  refine pf_M_103 56 X kd_M_reset_53 rfl ?_
  refine zj_nms (fun s10 => ?_)
  refine zj_aload_n 57 0 X kd_M_reset_56 rfl rfl rfl ?_
  refine zj_sipush 60 256 X kd_M_reset_57 ks_256 rfl ?_
  refine pf_M_26 63 X kd_M_reset_60 rfl ?_
  refine zj_nms (fun s11 => ?_)
  refine zj_aload_n 64 0 X kd_M_reset_63 rfl rfl rfl ?_
  refine zj_iconst 65 0 X kd_M_reset_64 ki_0 rfl ?_
  refine pf_M_55 68 X kd_M_reset_65 rfl ?_
  refine zj_nms (fun s12 => ?_)
  refine zj_aload_n 69 0 X kd_M_reset_68 rfl rfl rfl ?_
  refine zj_iconst 70 0 X kd_M_reset_69 ki_0 rfl ?_
  refine pf_M_45 73 X kd_M_reset_70 (Or.inl rfl) rfl ?_
  refine zj_nms (fun s13 => ?_)
  refine zj_aload_n 74 0 X kd_M_reset_73 rfl rfl rfl ?_
  refine zj_iconst 75 0 X kd_M_reset_74 ki_0 rfl ?_
  refine pf_M_49 78 X kd_M_reset_75 (Or.inl rfl) rfl ?_
  refine zj_nms (fun s14 => ?_)
  refine zj_aload_n 79 0 X kd_M_reset_78 rfl rfl rfl ?_
  refine zj_iconst 80 ((-1)) X kd_M_reset_79 ki_m1 rfl ?_
  refine pf_M_29 83 X kd_M_reset_80 rfl ?_
  refine zj_nms (fun s15 => ?_)
  refine zj_aload_n 84 0 X kd_M_reset_83 rfl rfl rfl ?_
  refine zj_iconst 85 0 X kd_M_reset_84 ki_0 rfl ?_
  refine pf_M_52 88 X kd_M_reset_85 (Or.inl rfl) rfl ?_
  refine zj_nms (fun s16 => ?_)
  refine zj_aload_n 89 0 X kd_M_reset_88 rfl rfl rfl ?_
  refine zj_iconst 90 ((-1)) X kd_M_reset_89 ki_m1 rfl ?_
  refine pf_M_32 93 X kd_M_reset_90 rfl ?_
  refine zj_nms (fun s17 => ?_)
  refine zj_aload_n 94 0 X kd_M_reset_93 rfl rfl rfl ?_
  refine gf_M_103 97 X kd_M_reset_94 rfl ?_
  exact zj_iret X kd_M_reset_97
theorem c_M_reset {l : Launch} {P : ZP} (hV : ZVok (zmV P)) (s0 : ZS)  {z : Int32 × ZS} (h : f_M_reset s0  = some z) : zMi l y_M_reset b_M_reset 1 (some .int) 2 52 (zmV P) s0 [.ref (P.1 0)] z :=
  zMi_of (by decide +kernel) rfl rfl (Nat.le_of_ble_eq_true rfl) hV (fun _ X => j_M_reset X s0 ) h
-- FrameMachineModel.isWord(I)Z
theorem kd_M_isWord_0 : decode b_M_isWord 0 = .ok (.iload_n 0, 1) := by decide +kernel
theorem kd_M_isWord_1 : decode b_M_isWord 1 = .ok (.ifCond .lt 20, 3) := by decide +kernel
theorem kd_M_isWord_4 : decode b_M_isWord 4 = .ok (.iload_n 0, 1) := by decide +kernel
theorem kd_M_isWord_5 : decode b_M_isWord 5 = .ok (.sipush 1022, 3) := by decide +kernel
theorem kd_M_isWord_8 : decode b_M_isWord 8 = .ok (.if_icmp .gt 13, 3) := by decide +kernel
theorem kd_M_isWord_11 : decode b_M_isWord 11 = .ok (.iload_n 0, 1) := by decide +kernel
theorem kd_M_isWord_12 : decode b_M_isWord 12 = .ok (.iconst 2, 1) := by decide +kernel
theorem kd_M_isWord_13 : decode b_M_isWord 13 = .ok (.irem, 1) := by decide +kernel
theorem kd_M_isWord_14 : decode b_M_isWord 14 = .ok (.ifCond .ne 7, 3) := by decide +kernel
theorem kd_M_isWord_17 : decode b_M_isWord 17 = .ok (.iconst 1, 1) := by decide +kernel
theorem kd_M_isWord_18 : decode b_M_isWord 18 = .ok (.goto 4, 3) := by decide +kernel
theorem kd_M_isWord_21 : decode b_M_isWord 21 = .ok (.iconst 0, 1) := by decide +kernel
theorem kd_M_isWord_22 : decode b_M_isWord 22 = .ok (.ireturn, 1) := by decide +kernel
noncomputable def f_M_isWord (s0 : ZS) (x1 : Int32) : Option (Int32 × ZS) :=
  if x1 < 0 then
    some (0, s0)
  else
    if 1022 < x1 then
      some (0, s0)
    else
      if (zo_irem x1 2) = 0 then
        some (1, s0)
      else
        some (0, s0)
theorem j_M_isWord {P : ZP} {E : ZE} {A : Nat → Prop} (X : ZX E (zmV P) A "FrameMachineModel" b_M_isWord 1 (some .boolean) 0 0) (s0 : ZS) (x1 : Int32) : ZJ E (zmV P) A 1 (zFi E (zmV P) A) 0 [(0, .int x1)] [] s0 (f_M_isWord s0 x1) := by
  unfold f_M_isWord
  refine zj_iload_n 1 0 X kd_M_isWord_0 rfl rfl rfl ?_
  refine zj_if_lt 21 4 X kd_M_isWord_1 rfl rfl (fun _ => ?_) (fun _ => ?_)
  · refine zj_iconst 22 0 X kd_M_isWord_21 ki_0 rfl ?_
    exact zj_zret X kd_M_isWord_22 (Or.inl rfl)
  · refine zj_iload_n 5 0 X kd_M_isWord_4 rfl rfl rfl ?_
    refine zj_sipush 8 1022 X kd_M_isWord_5 ks_1022 rfl ?_
    refine zj_icmp_gt 21 11 X kd_M_isWord_8 rfl rfl (fun _ => ?_) (fun _ => ?_)
    · refine zj_iconst 22 0 X kd_M_isWord_21 ki_0 rfl ?_
      exact zj_zret X kd_M_isWord_22 (Or.inl rfl)
    · refine zj_iload_n 12 0 X kd_M_isWord_11 rfl rfl rfl ?_
      refine zj_iconst 13 2 X kd_M_isWord_12 ki_2 rfl ?_
      refine zj_irem 14 X kd_M_isWord_13 (by decide) rfl ?_
      refine zj_if_ne 21 17 X kd_M_isWord_14 rfl rfl (fun _ => ?_) (fun _ => ?_)
      · refine zj_iconst 18 1 X kd_M_isWord_17 ki_1 rfl ?_
        refine zj_goto 22 X kd_M_isWord_18 rfl ?_
        exact zj_zret X kd_M_isWord_22 (Or.inr rfl)
      · refine zj_iconst 22 0 X kd_M_isWord_21 ki_0 rfl ?_
        exact zj_zret X kd_M_isWord_22 (Or.inl rfl)
theorem c_M_isWord {l : Launch} {P : ZP} (hV : ZVok (zmV P)) (s0 : ZS) (x1 : Int32) {z : Int32 × ZS} (h : f_M_isWord s0 x1 = some z) : zMi l y_M_isWord b_M_isWord 1 (some .boolean) 0 0 (zmV P) s0 [.int x1] z :=
  zMi_of (by decide +kernel) rfl rfl (Nat.le_of_ble_eq_true rfl) hV (fun _ X => j_M_isWord X s0 x1) h
theorem kc_M_294 : zCS "FrameMachineModel" 294 y_M_isWord b_M_isWord 1 (some .boolean) 1 := ⟨⟨kw_1076, kw_1077, kw_11, kw_1078⟩, by decide +kernel, by decide +kernel, by decide +kernel⟩
theorem mc_M_294 {ρ : Type} {E : ZE} {P : ZP} {A : Nat → Prop} {cc : ByteArray} {nL : Nat} {ret : Option FieldType} {fr lo : Nat} {F : ρ → State → Prop} {pc : Nat} {L : List (Nat × Value)} {rest : List Value} {σ : ZS} {x1 : Int32} {K : Int32 × ZS → Option ρ} (q : Nat) (X : ZX E (zmV P) A "FrameMachineModel" cc nL ret fr lo) (d : decode cc pc = .ok (.invokestatic 294, 3)) (hfr : 0 + 1 ≤ fr) (hlo : 8 + (1 + 11) + 0 ≤ lo) (hr : (rest.map fun v => v.category).sum ≤ 8) (hq : pc + 3 = q) (kk : ∀ p : Int32 × ZS, ZJ E (zmV P) A nL F q L (.int p.1 :: rest) p.2 (K p)) : ZJ E (zmV P) A nL F pc L (.int x1 :: rest) σ ((f_M_isWord σ x1).bind K) :=
  zj_cSi q (As := [.int x1]) (rest := rest) X kc_M_294 hfr hlo (fun p h => c_M_isWord (zx_v X) σ x1 h) rfl hr d hq kk
-- FrameMachineModel.poke(II)Z
theorem kd_M_poke_0 : decode b_M_poke 0 = .ok (.aload_n 0, 1) := by decide +kernel
theorem kd_M_poke_1 : decode b_M_poke 1 = .ok (.iload_n 1, 1) := by decide +kernel
theorem kd_M_poke_2 : decode b_M_poke 2 = .ok (.invokestatic 294, 3) := by decide +kernel
theorem kd_M_poke_5 : decode b_M_poke 5 = .ok (.ifCond .eq 14, 3) := by decide +kernel
theorem kd_M_poke_8 : decode b_M_poke 8 = .ok (.iload_n 2, 1) := by decide +kernel
theorem kd_M_poke_9 : decode b_M_poke 9 = .ok (.ifCond .lt 10, 3) := by decide +kernel
theorem kd_M_poke_12 : decode b_M_poke 12 = .ok (.iload_n 2, 1) := by decide +kernel
theorem kd_M_poke_13 : decode b_M_poke 13 = .ok (.ldc_w 297, 3) := by decide +kernel
theorem kd_M_poke_16 : decode b_M_poke 16 = .ok (.if_icmp .le 7, 3) := by decide +kernel
theorem kd_M_poke_19 : decode b_M_poke 19 = .ok (.iconst 1, 1) := by decide +kernel
theorem kd_M_poke_20 : decode b_M_poke 20 = .ok (.goto 4, 3) := by decide +kernel
theorem kd_M_poke_23 : decode b_M_poke 23 = .ok (.iconst 0, 1) := by decide +kernel
theorem kd_M_poke_24 : decode b_M_poke 24 = .ok (.putfield 38, 3) := by decide +kernel
theorem kd_M_poke_27 : decode b_M_poke 27 = .ok (.aload_n 0, 1) := by decide +kernel
theorem kd_M_poke_28 : decode b_M_poke 28 = .ok (.getfield 38, 3) := by decide +kernel
theorem kd_M_poke_31 : decode b_M_poke 31 = .ok (.ifCond .le 5, 3) := by decide +kernel
theorem kd_M_poke_34 : decode b_M_poke 34 = .ok (.iconst 0, 1) := by decide +kernel
theorem kd_M_poke_35 : decode b_M_poke 35 = .ok (.ireturn, 1) := by decide +kernel
theorem kd_M_poke_36 : decode b_M_poke 36 = .ok (.aload_n 0, 1) := by decide +kernel
theorem kd_M_poke_37 : decode b_M_poke 37 = .ok (.getfield 7, 3) := by decide +kernel
theorem kd_M_poke_40 : decode b_M_poke 40 = .ok (.iload_n 1, 1) := by decide +kernel
theorem kd_M_poke_41 : decode b_M_poke 41 = .ok (.iload_n 2, 1) := by decide +kernel
theorem kd_M_poke_42 : decode b_M_poke 42 = .ok (.bipush 8, 2) := by decide +kernel
theorem kd_M_poke_44 : decode b_M_poke 44 = .ok (.ishr, 1) := by decide +kernel
theorem kd_M_poke_45 : decode b_M_poke 45 = .ok (.iastore, 1) := by decide +kernel
theorem kd_M_poke_46 : decode b_M_poke 46 = .ok (.aload_n 0, 1) := by decide +kernel
theorem kd_M_poke_47 : decode b_M_poke 47 = .ok (.getfield 7, 3) := by decide +kernel
theorem kd_M_poke_50 : decode b_M_poke 50 = .ok (.iload_n 1, 1) := by decide +kernel
theorem kd_M_poke_51 : decode b_M_poke 51 = .ok (.iconst 1, 1) := by decide +kernel
theorem kd_M_poke_52 : decode b_M_poke 52 = .ok (.iadd, 1) := by decide +kernel
theorem kd_M_poke_53 : decode b_M_poke 53 = .ok (.iload_n 2, 1) := by decide +kernel
theorem kd_M_poke_54 : decode b_M_poke 54 = .ok (.sipush 255, 3) := by decide +kernel
theorem kd_M_poke_57 : decode b_M_poke 57 = .ok (.iand, 1) := by decide +kernel
theorem kd_M_poke_58 : decode b_M_poke 58 = .ok (.iastore, 1) := by decide +kernel
theorem kd_M_poke_59 : decode b_M_poke 59 = .ok (.iconst 1, 1) := by decide +kernel
theorem kd_M_poke_60 : decode b_M_poke 60 = .ok (.ireturn, 1) := by decide +kernel
noncomputable def f_M_poke_24 (s0 : ZS) (l1 : Int32) (l2 : Int32) (t0 : Int32) : Option (Int32 × ZS) :=
  zs_nm (zs_up s0 0 0 t0) fun s2 =>
  if (s2 0 0) ≤ 0 then
    if l1 < 0 ∨ 1024 ≤ l1.toNatClampNeg then none else
    zs_nm (zs_up s2 1 l1.toNatClampNeg (zo_shr l2 8)) fun s3 =>
    if (l1 + 1) < 0 ∨ 1024 ≤ (l1 + 1).toNatClampNeg then none else
    zs_nm (zs_up s3 1 (l1 + 1).toNatClampNeg (l2 &&& 255)) fun s4 =>
    some (1, s4)
  else
    some (0, s2)
noncomputable def f_M_poke_19 (s0 : ZS) (l1 : Int32) (l2 : Int32) : Option (Int32 × ZS) :=
  f_M_poke_24 s0 l1 l2 1
noncomputable def f_M_poke (s0 : ZS) (x1 : Int32) (x2 : Int32) : Option (Int32 × ZS) :=
  (f_M_isWord s0 x1).bind fun p1 =>
  if p1.1 = 0 then
    f_M_poke_19 p1.2 x1 x2
  else
    if x2 < 0 then
      f_M_poke_19 p1.2 x1 x2
    else
      if x2 ≤ 65535 then
        f_M_poke_24 p1.2 x1 x2 0
      else
        f_M_poke_19 p1.2 x1 x2
theorem j_M_poke_24 {P : ZP} {E : ZE} {A : Nat → Prop} (X : ZX E (zmV P) A "FrameMachineModel" b_M_poke 3 (some .boolean) 1 20) (s0 : ZS) (l1 : Int32) (l2 : Int32) (t0 : Int32) : ZJ E (zmV P) A 3 (zFi E (zmV P) A) 24 [(0, .ref (P.1 0)), (1, .int l1), (2, .int l2)] [.int t0, .ref (P.1 0)] s0 (f_M_poke_24 s0 l1 l2 t0) := by
  unfold f_M_poke_24
  refine pf_M_38 27 X kd_M_poke_24 rfl ?_
  refine zj_nms (fun s2 => ?_)
  refine zj_aload_n 28 0 X kd_M_poke_27 rfl rfl rfl ?_
  refine gf_M_38 31 X kd_M_poke_28 rfl ?_
  refine zj_if_le 36 34 X kd_M_poke_31 rfl rfl (fun _ => ?_) (fun _ => ?_)
  · refine zj_aload_n 37 0 X kd_M_poke_36 rfl rfl rfl ?_
    refine gf_M_7 40 X kd_M_poke_37 rfl ?_
    refine zj_iload_n 41 1 X kd_M_poke_40 rfl rfl rfl ?_
    refine zj_iload_n 42 2 X kd_M_poke_41 rfl rfl rfl ?_
    refine zj_bipush 44 8 X kd_M_poke_42 kb_8 rfl ?_
    refine zj_ishr 45 X kd_M_poke_44 rfl ?_
    refine zj_ng (fun hg => ?_)
    refine as_M_1 46 X kd_M_poke_45 hg rfl ?_
    refine zj_nms (fun s3 => ?_)
    refine zj_aload_n 47 0 X kd_M_poke_46 rfl rfl rfl ?_
    refine gf_M_7 50 X kd_M_poke_47 rfl ?_
    refine zj_iload_n 51 1 X kd_M_poke_50 rfl rfl rfl ?_
    refine zj_iconst 52 1 X kd_M_poke_51 ki_1 rfl ?_
    refine zj_iadd 53 X kd_M_poke_52 rfl ?_
    refine zj_iload_n 54 2 X kd_M_poke_53 rfl rfl rfl ?_
    refine zj_sipush 57 255 X kd_M_poke_54 ks_255 rfl ?_
    refine zj_iand 58 X kd_M_poke_57 rfl ?_
    refine zj_ng (fun hg => ?_)
    refine as_M_1 59 X kd_M_poke_58 hg rfl ?_
    refine zj_nms (fun s4 => ?_)
    refine zj_iconst 60 1 X kd_M_poke_59 ki_1 rfl ?_
    exact zj_zret X kd_M_poke_60 (Or.inr rfl)
  · refine zj_iconst 35 0 X kd_M_poke_34 ki_0 rfl ?_
    exact zj_zret X kd_M_poke_35 (Or.inl rfl)
theorem j_M_poke_19 {P : ZP} {E : ZE} {A : Nat → Prop} (X : ZX E (zmV P) A "FrameMachineModel" b_M_poke 3 (some .boolean) 1 20) (s0 : ZS) (l1 : Int32) (l2 : Int32) : ZJ E (zmV P) A 3 (zFi E (zmV P) A) 19 [(0, .ref (P.1 0)), (1, .int l1), (2, .int l2)] [.ref (P.1 0)] s0 (f_M_poke_19 s0 l1 l2) := by
  unfold f_M_poke_19
  refine zj_iconst 20 1 X kd_M_poke_19 ki_1 rfl ?_
  refine zj_goto 24 X kd_M_poke_20 rfl ?_
  exact j_M_poke_24 X s0 l1 l2 1
theorem j_M_poke {P : ZP} {E : ZE} {A : Nat → Prop} (X : ZX E (zmV P) A "FrameMachineModel" b_M_poke 3 (some .boolean) 1 20) (s0 : ZS) (x1 : Int32) (x2 : Int32) : ZJ E (zmV P) A 3 (zFi E (zmV P) A) 0 [(0, .ref (P.1 0)), (1, .int x1), (2, .int x2)] [] s0 (f_M_poke s0 x1 x2) := by
  unfold f_M_poke
  refine zj_aload_n 1 0 X kd_M_poke_0 rfl rfl rfl ?_
  refine zj_iload_n 2 1 X kd_M_poke_1 rfl rfl rfl ?_
  refine mc_M_294 5 X kd_M_poke_2 (Nat.le_of_ble_eq_true rfl) (Nat.le_of_ble_eq_true rfl) (Nat.le_of_ble_eq_true rfl) rfl (fun p1 => ?_)
  refine zj_if_eq 19 8 X kd_M_poke_5 rfl rfl (fun _ => ?_) (fun _ => ?_)
  · exact j_M_poke_19 X p1.2 x1 x2
  · refine zj_iload_n 9 2 X kd_M_poke_8 rfl rfl rfl ?_
    refine zj_if_lt 19 12 X kd_M_poke_9 rfl rfl (fun _ => ?_) (fun _ => ?_)
    · exact j_M_poke_19 X p1.2 x1 x2
    · refine zj_iload_n 13 2 X kd_M_poke_12 rfl rfl rfl ?_
      refine zj_ldc_w 16 65535 X kd_M_poke_13 kw_1079 rfl ?_
      refine zj_icmp_le 23 19 X kd_M_poke_16 rfl rfl (fun _ => ?_) (fun _ => ?_)
      · refine zj_iconst 24 0 X kd_M_poke_23 ki_0 rfl ?_
        exact j_M_poke_24 X p1.2 x1 x2 0
      · exact j_M_poke_19 X p1.2 x1 x2
theorem c_M_poke {l : Launch} {P : ZP} (hV : ZVok (zmV P)) (s0 : ZS) (x1 : Int32) (x2 : Int32) {z : Int32 × ZS} (h : f_M_poke s0 x1 x2 = some z) : zMi l y_M_poke b_M_poke 3 (some .boolean) 1 20 (zmV P) s0 [.ref (P.1 0), .int x1, .int x2] z :=
  zMi_of (by decide +kernel) rfl rfl (Nat.le_of_ble_eq_true rfl) hV (fun _ X => j_M_poke X s0 x1 x2) h
-- FrameMachineModel.peek(I)I
theorem kd_M_peek_0 : decode b_M_peek 0 = .ok (.aload_n 0, 1) := by decide +kernel
theorem kd_M_peek_1 : decode b_M_peek 1 = .ok (.iload_n 1, 1) := by decide +kernel
theorem kd_M_peek_2 : decode b_M_peek 2 = .ok (.invokestatic 294, 3) := by decide +kernel
theorem kd_M_peek_5 : decode b_M_peek 5 = .ok (.ifCond .eq 7, 3) := by decide +kernel
theorem kd_M_peek_8 : decode b_M_peek 8 = .ok (.iconst 0, 1) := by decide +kernel
theorem kd_M_peek_9 : decode b_M_peek 9 = .ok (.goto 4, 3) := by decide +kernel
theorem kd_M_peek_12 : decode b_M_peek 12 = .ok (.iconst 1, 1) := by decide +kernel
theorem kd_M_peek_13 : decode b_M_peek 13 = .ok (.putfield 38, 3) := by decide +kernel
theorem kd_M_peek_16 : decode b_M_peek 16 = .ok (.aload_n 0, 1) := by decide +kernel
theorem kd_M_peek_17 : decode b_M_peek 17 = .ok (.getfield 38, 3) := by decide +kernel
theorem kd_M_peek_20 : decode b_M_peek 20 = .ok (.ifCond .le 7, 3) := by decide +kernel
theorem kd_M_peek_23 : decode b_M_peek 23 = .ok (.iconst 0, 1) := by decide +kernel
theorem kd_M_peek_24 : decode b_M_peek 24 = .ok (.goto 22, 3) := by decide +kernel
theorem kd_M_peek_27 : decode b_M_peek 27 = .ok (.sipush 256, 3) := by decide +kernel
theorem kd_M_peek_30 : decode b_M_peek 30 = .ok (.aload_n 0, 1) := by decide +kernel
theorem kd_M_peek_31 : decode b_M_peek 31 = .ok (.getfield 7, 3) := by decide +kernel
theorem kd_M_peek_34 : decode b_M_peek 34 = .ok (.iload_n 1, 1) := by decide +kernel
theorem kd_M_peek_35 : decode b_M_peek 35 = .ok (.iaload, 1) := by decide +kernel
theorem kd_M_peek_36 : decode b_M_peek 36 = .ok (.imul, 1) := by decide +kernel
theorem kd_M_peek_37 : decode b_M_peek 37 = .ok (.aload_n 0, 1) := by decide +kernel
theorem kd_M_peek_38 : decode b_M_peek 38 = .ok (.getfield 7, 3) := by decide +kernel
theorem kd_M_peek_41 : decode b_M_peek 41 = .ok (.iload_n 1, 1) := by decide +kernel
theorem kd_M_peek_42 : decode b_M_peek 42 = .ok (.iconst 1, 1) := by decide +kernel
theorem kd_M_peek_43 : decode b_M_peek 43 = .ok (.iadd, 1) := by decide +kernel
theorem kd_M_peek_44 : decode b_M_peek 44 = .ok (.iaload, 1) := by decide +kernel
theorem kd_M_peek_45 : decode b_M_peek 45 = .ok (.iadd, 1) := by decide +kernel
theorem kd_M_peek_46 : decode b_M_peek 46 = .ok (.ireturn, 1) := by decide +kernel
noncomputable def f_M_peek_13 (s0 : ZS) (l1 : Int32) (t0 : Int32) : Option (Int32 × ZS) :=
  zs_nm (zs_up s0 0 0 t0) fun s2 =>
  if (s2 0 0) ≤ 0 then
    if l1 < 0 ∨ 1024 ≤ l1.toNatClampNeg then none else
    zs_nm (l1 + 1) fun v3 =>
    if v3 < 0 ∨ 1024 ≤ v3.toNatClampNeg then none else
    some ((256 * (s2 1 l1.toNatClampNeg)) + (s2 1 v3.toNatClampNeg), s2)
  else
    some (0, s2)
noncomputable def f_M_peek (s0 : ZS) (x1 : Int32) : Option (Int32 × ZS) :=
  (f_M_isWord s0 x1).bind fun p1 =>
  if p1.1 = 0 then
    f_M_peek_13 p1.2 x1 1
  else
    f_M_peek_13 p1.2 x1 0
theorem j_M_peek_13 {P : ZP} {E : ZE} {A : Nat → Prop} (X : ZX E (zmV P) A "FrameMachineModel" b_M_peek 2 (some .int) 1 20) (s0 : ZS) (l1 : Int32) (t0 : Int32) : ZJ E (zmV P) A 2 (zFi E (zmV P) A) 13 [(0, .ref (P.1 0)), (1, .int l1)] [.int t0, .ref (P.1 0)] s0 (f_M_peek_13 s0 l1 t0) := by
  unfold f_M_peek_13
  refine pf_M_38 16 X kd_M_peek_13 rfl ?_
  refine zj_nms (fun s2 => ?_)
  refine zj_aload_n 17 0 X kd_M_peek_16 rfl rfl rfl ?_
  refine gf_M_38 20 X kd_M_peek_17 rfl ?_
  refine zj_if_le 27 23 X kd_M_peek_20 rfl rfl (fun _ => ?_) (fun _ => ?_)
  · refine zj_sipush 30 256 X kd_M_peek_27 ks_256 rfl ?_
    refine zj_aload_n 31 0 X kd_M_peek_30 rfl rfl rfl ?_
    refine gf_M_7 34 X kd_M_peek_31 rfl ?_
    refine zj_iload_n 35 1 X kd_M_peek_34 rfl rfl rfl ?_
    refine zj_ng (fun hg => ?_)
    refine al_M_1 36 X kd_M_peek_35 hg rfl ?_
    refine zj_imul 37 X kd_M_peek_36 rfl ?_
    refine zj_aload_n 38 0 X kd_M_peek_37 rfl rfl rfl ?_
    refine gf_M_7 41 X kd_M_peek_38 rfl ?_
    refine zj_iload_n 42 1 X kd_M_peek_41 rfl rfl rfl ?_
    refine zj_iconst 43 1 X kd_M_peek_42 ki_1 rfl ?_
    refine zj_iadd 44 X kd_M_peek_43 rfl ?_
    refine zj_nmi (fun v3 => ?_)
    refine zj_ng (fun hg => ?_)
    refine al_M_1 45 X kd_M_peek_44 hg rfl ?_
    refine zj_iadd 46 X kd_M_peek_45 rfl ?_
    exact zj_iret X kd_M_peek_46
  · refine zj_iconst 24 0 X kd_M_peek_23 ki_0 rfl ?_
    refine zj_goto 46 X kd_M_peek_24 rfl ?_
    exact zj_iret X kd_M_peek_46
theorem j_M_peek {P : ZP} {E : ZE} {A : Nat → Prop} (X : ZX E (zmV P) A "FrameMachineModel" b_M_peek 2 (some .int) 1 20) (s0 : ZS) (x1 : Int32) : ZJ E (zmV P) A 2 (zFi E (zmV P) A) 0 [(0, .ref (P.1 0)), (1, .int x1)] [] s0 (f_M_peek s0 x1) := by
  unfold f_M_peek
  refine zj_aload_n 1 0 X kd_M_peek_0 rfl rfl rfl ?_
  refine zj_iload_n 2 1 X kd_M_peek_1 rfl rfl rfl ?_
  refine mc_M_294 5 X kd_M_peek_2 (Nat.le_of_ble_eq_true rfl) (Nat.le_of_ble_eq_true rfl) (Nat.le_of_ble_eq_true rfl) rfl (fun p1 => ?_)
  refine zj_if_eq 12 8 X kd_M_peek_5 rfl rfl (fun _ => ?_) (fun _ => ?_)
  · refine zj_iconst 13 1 X kd_M_peek_12 ki_1 rfl ?_
    exact j_M_peek_13 X p1.2 x1 1
  · refine zj_iconst 9 0 X kd_M_peek_8 ki_0 rfl ?_
    refine zj_goto 13 X kd_M_peek_9 rfl ?_
    exact j_M_peek_13 X p1.2 x1 0
theorem c_M_peek {l : Launch} {P : ZP} (hV : ZVok (zmV P)) (s0 : ZS) (x1 : Int32) {z : Int32 × ZS} (h : f_M_peek s0 x1 = some z) : zMi l y_M_peek b_M_peek 2 (some .int) 1 20 (zmV P) s0 [.ref (P.1 0), .int x1] z :=
  zMi_of (by decide +kernel) rfl rfl (Nat.le_of_ble_eq_true rfl) hV (fun _ X => j_M_peek X s0 x1) h
-- FrameMachineModel.set(II)Z
theorem kd_M_set_0 : decode b_M_set 0 = .ok (.aload_n 0, 1) := by decide +kernel
theorem kd_M_set_1 : decode b_M_set 1 = .ok (.iload_n 1, 1) := by decide +kernel
theorem kd_M_set_2 : decode b_M_set 2 = .ok (.ifCond .lt 9, 3) := by decide +kernel
theorem kd_M_set_5 : decode b_M_set 5 = .ok (.iload_n 1, 1) := by decide +kernel
theorem kd_M_set_6 : decode b_M_set 6 = .ok (.bipush 17, 2) := by decide +kernel
theorem kd_M_set_8 : decode b_M_set 8 = .ok (.if_icmp .le 7, 3) := by decide +kernel
theorem kd_M_set_11 : decode b_M_set 11 = .ok (.iconst 1, 1) := by decide +kernel
theorem kd_M_set_12 : decode b_M_set 12 = .ok (.goto 4, 3) := by decide +kernel
theorem kd_M_set_15 : decode b_M_set 15 = .ok (.iconst 0, 1) := by decide +kernel
theorem kd_M_set_16 : decode b_M_set 16 = .ok (.putfield 38, 3) := by decide +kernel
theorem kd_M_set_19 : decode b_M_set 19 = .ok (.aload_n 0, 1) := by decide +kernel
theorem kd_M_set_20 : decode b_M_set 20 = .ok (.getfield 38, 3) := by decide +kernel
theorem kd_M_set_23 : decode b_M_set 23 = .ok (.ifCond .le 5, 3) := by decide +kernel
theorem kd_M_set_26 : decode b_M_set 26 = .ok (.iconst 0, 1) := by decide +kernel
theorem kd_M_set_27 : decode b_M_set 27 = .ok (.ireturn, 1) := by decide +kernel
theorem kd_M_set_28 : decode b_M_set 28 = .ok (.iload_n 1, 1) := by decide +kernel
theorem kd_M_set_29 : decode b_M_set 29 = .ok (.bipush 8, 2) := by decide +kernel
theorem kd_M_set_31 : decode b_M_set 31 = .ok (.if_icmp .ge 13, 3) := by decide +kernel
theorem kd_M_set_34 : decode b_M_set 34 = .ok (.aload_n 0, 1) := by decide +kernel
theorem kd_M_set_35 : decode b_M_set 35 = .ok (.getfield 13, 3) := by decide +kernel
theorem kd_M_set_38 : decode b_M_set 38 = .ok (.iload_n 1, 1) := by decide +kernel
theorem kd_M_set_39 : decode b_M_set 39 = .ok (.iload_n 2, 1) := by decide +kernel
theorem kd_M_set_40 : decode b_M_set 40 = .ok (.iastore, 1) := by decide +kernel
theorem kd_M_set_41 : decode b_M_set 41 = .ok (.goto 41, 3) := by decide +kernel
theorem kd_M_set_44 : decode b_M_set 44 = .ok (.iload_n 1, 1) := by decide +kernel
theorem kd_M_set_45 : decode b_M_set 45 = .ok (.bipush 16, 2) := by decide +kernel
theorem kd_M_set_47 : decode b_M_set 47 = .ok (.if_icmp .ge 16, 3) := by decide +kernel
theorem kd_M_set_50 : decode b_M_set 50 = .ok (.aload_n 0, 1) := by decide +kernel
theorem kd_M_set_51 : decode b_M_set 51 = .ok (.getfield 16, 3) := by decide +kernel
theorem kd_M_set_54 : decode b_M_set 54 = .ok (.iload_n 1, 1) := by decide +kernel
theorem kd_M_set_55 : decode b_M_set 55 = .ok (.bipush 8, 2) := by decide +kernel
theorem kd_M_set_57 : decode b_M_set 57 = .ok (.isub, 1) := by decide +kernel
theorem kd_M_set_58 : decode b_M_set 58 = .ok (.iload_n 2, 1) := by decide +kernel
theorem kd_M_set_59 : decode b_M_set 59 = .ok (.iastore, 1) := by decide +kernel
theorem kd_M_set_60 : decode b_M_set 60 = .ok (.goto 22, 3) := by decide +kernel
theorem kd_M_set_63 : decode b_M_set 63 = .ok (.iload_n 1, 1) := by decide +kernel
theorem kd_M_set_64 : decode b_M_set 64 = .ok (.bipush 16, 2) := by decide +kernel
theorem kd_M_set_66 : decode b_M_set 66 = .ok (.if_icmp .ne 11, 3) := by decide +kernel
theorem kd_M_set_69 : decode b_M_set 69 = .ok (.aload_n 0, 1) := by decide +kernel
theorem kd_M_set_70 : decode b_M_set 70 = .ok (.iload_n 2, 1) := by decide +kernel
theorem kd_M_set_71 : decode b_M_set 71 = .ok (.putfield 137, 3) := by decide +kernel
theorem kd_M_set_74 : decode b_M_set 74 = .ok (.goto 8, 3) := by decide +kernel
theorem kd_M_set_77 : decode b_M_set 77 = .ok (.aload_n 0, 1) := by decide +kernel
theorem kd_M_set_78 : decode b_M_set 78 = .ok (.iload_n 2, 1) := by decide +kernel
theorem kd_M_set_79 : decode b_M_set 79 = .ok (.putfield 103, 3) := by decide +kernel
theorem kd_M_set_82 : decode b_M_set 82 = .ok (.iconst 1, 1) := by decide +kernel
theorem kd_M_set_83 : decode b_M_set 83 = .ok (.ireturn, 1) := by decide +kernel
noncomputable def f_M_set_16 (s0 : ZS) (l1 : Int32) (l2 : Int32) (t0 : Int32) : Option (Int32 × ZS) :=
  zs_nm (zs_up s0 0 0 t0) fun s1 =>
  if (s1 0 0) ≤ 0 then
    if 8 ≤ l1 then
      if 16 ≤ l1 then
        if l1 = 16 then
          zs_nm (zs_up s1 0 1 l2) fun s3 =>
          some (1, s3)
        else
          zs_nm (zs_up s1 0 2 l2) fun s2 =>
          some (1, s2)
      else
        if (l1 - 8) < 0 ∨ 8 ≤ (l1 - 8).toNatClampNeg then none else
        zs_nm (zs_up s1 3 (l1 - 8).toNatClampNeg l2) fun s4 =>
        some (1, s4)
    else
      if l1 < 0 ∨ 8 ≤ l1.toNatClampNeg then none else
      zs_nm (zs_up s1 2 l1.toNatClampNeg l2) fun s5 =>
      some (1, s5)
  else
    some (0, s1)
noncomputable def f_M_set_11 (s0 : ZS) (l1 : Int32) (l2 : Int32) : Option (Int32 × ZS) :=
  f_M_set_16 s0 l1 l2 1
noncomputable def f_M_set (s0 : ZS) (x1 : Int32) (x2 : Int32) : Option (Int32 × ZS) :=
  if x1 < 0 then
    f_M_set_11 s0 x1 x2
  else
    if x1 ≤ 17 then
      f_M_set_16 s0 x1 x2 0
    else
      f_M_set_11 s0 x1 x2
theorem j_M_set_16 {P : ZP} {E : ZE} {A : Nat → Prop} (X : ZX E (zmV P) A "FrameMachineModel" b_M_set 3 (some .boolean) 0 0) (s0 : ZS) (l1 : Int32) (l2 : Int32) (t0 : Int32) : ZJ E (zmV P) A 3 (zFi E (zmV P) A) 16 [(0, .ref (P.1 0)), (1, .int l1), (2, .int l2)] [.int t0, .ref (P.1 0)] s0 (f_M_set_16 s0 l1 l2 t0) := by
  unfold f_M_set_16
  refine pf_M_38 19 X kd_M_set_16 rfl ?_
  refine zj_nms (fun s1 => ?_)
  refine zj_aload_n 20 0 X kd_M_set_19 rfl rfl rfl ?_
  refine gf_M_38 23 X kd_M_set_20 rfl ?_
  refine zj_if_le 28 26 X kd_M_set_23 rfl rfl (fun _ => ?_) (fun _ => ?_)
  · refine zj_iload_n 29 1 X kd_M_set_28 rfl rfl rfl ?_
    refine zj_bipush 31 8 X kd_M_set_29 kb_8 rfl ?_
    refine zj_icmp_ge 44 34 X kd_M_set_31 rfl rfl (fun _ => ?_) (fun _ => ?_)
    · refine zj_iload_n 45 1 X kd_M_set_44 rfl rfl rfl ?_
      refine zj_bipush 47 16 X kd_M_set_45 kb_16 rfl ?_
      refine zj_icmp_ge 63 50 X kd_M_set_47 rfl rfl (fun _ => ?_) (fun _ => ?_)
      · refine zj_iload_n 64 1 X kd_M_set_63 rfl rfl rfl ?_
        refine zj_bipush 66 16 X kd_M_set_64 kb_16 rfl ?_
        refine zj_icmp_ne 77 69 X kd_M_set_66 rfl rfl (fun _ => ?_) (fun _ => ?_)
        · refine zj_aload_n 70 0 X kd_M_set_69 rfl rfl rfl ?_
          refine zj_iload_n 71 2 X kd_M_set_70 rfl rfl rfl ?_
          refine pf_M_137 74 X kd_M_set_71 rfl ?_
          refine zj_nms (fun s3 => ?_)
          refine zj_goto 82 X kd_M_set_74 rfl ?_
          refine zj_iconst 83 1 X kd_M_set_82 ki_1 rfl ?_
          exact zj_zret X kd_M_set_83 (Or.inr rfl)
        · refine zj_aload_n 78 0 X kd_M_set_77 rfl rfl rfl ?_
          refine zj_iload_n 79 2 X kd_M_set_78 rfl rfl rfl ?_
          refine pf_M_103 82 X kd_M_set_79 rfl ?_
          refine zj_nms (fun s2 => ?_)
          refine zj_iconst 83 1 X kd_M_set_82 ki_1 rfl ?_
          exact zj_zret X kd_M_set_83 (Or.inr rfl)
      · refine zj_aload_n 51 0 X kd_M_set_50 rfl rfl rfl ?_
        refine gf_M_16 54 X kd_M_set_51 rfl ?_
        refine zj_iload_n 55 1 X kd_M_set_54 rfl rfl rfl ?_
        refine zj_bipush 57 8 X kd_M_set_55 kb_8 rfl ?_
        refine zj_isub 58 X kd_M_set_57 rfl ?_
        refine zj_iload_n 59 2 X kd_M_set_58 rfl rfl rfl ?_
        refine zj_ng (fun hg => ?_)
        refine as_M_3 60 X kd_M_set_59 hg rfl ?_
        refine zj_nms (fun s4 => ?_)
        refine zj_goto 82 X kd_M_set_60 rfl ?_
        refine zj_iconst 83 1 X kd_M_set_82 ki_1 rfl ?_
        exact zj_zret X kd_M_set_83 (Or.inr rfl)
    · refine zj_aload_n 35 0 X kd_M_set_34 rfl rfl rfl ?_
      refine gf_M_13 38 X kd_M_set_35 rfl ?_
      refine zj_iload_n 39 1 X kd_M_set_38 rfl rfl rfl ?_
      refine zj_iload_n 40 2 X kd_M_set_39 rfl rfl rfl ?_
      refine zj_ng (fun hg => ?_)
      refine as_M_2 41 X kd_M_set_40 hg rfl ?_
      refine zj_nms (fun s5 => ?_)
      refine zj_goto 82 X kd_M_set_41 rfl ?_
      refine zj_iconst 83 1 X kd_M_set_82 ki_1 rfl ?_
      exact zj_zret X kd_M_set_83 (Or.inr rfl)
  · refine zj_iconst 27 0 X kd_M_set_26 ki_0 rfl ?_
    exact zj_zret X kd_M_set_27 (Or.inl rfl)
theorem j_M_set_11 {P : ZP} {E : ZE} {A : Nat → Prop} (X : ZX E (zmV P) A "FrameMachineModel" b_M_set 3 (some .boolean) 0 0) (s0 : ZS) (l1 : Int32) (l2 : Int32) : ZJ E (zmV P) A 3 (zFi E (zmV P) A) 11 [(0, .ref (P.1 0)), (1, .int l1), (2, .int l2)] [.ref (P.1 0)] s0 (f_M_set_11 s0 l1 l2) := by
  unfold f_M_set_11
  refine zj_iconst 12 1 X kd_M_set_11 ki_1 rfl ?_
  refine zj_goto 16 X kd_M_set_12 rfl ?_
  exact j_M_set_16 X s0 l1 l2 1
theorem j_M_set {P : ZP} {E : ZE} {A : Nat → Prop} (X : ZX E (zmV P) A "FrameMachineModel" b_M_set 3 (some .boolean) 0 0) (s0 : ZS) (x1 : Int32) (x2 : Int32) : ZJ E (zmV P) A 3 (zFi E (zmV P) A) 0 [(0, .ref (P.1 0)), (1, .int x1), (2, .int x2)] [] s0 (f_M_set s0 x1 x2) := by
  unfold f_M_set
  refine zj_aload_n 1 0 X kd_M_set_0 rfl rfl rfl ?_
  refine zj_iload_n 2 1 X kd_M_set_1 rfl rfl rfl ?_
  refine zj_if_lt 11 5 X kd_M_set_2 rfl rfl (fun _ => ?_) (fun _ => ?_)
  · exact j_M_set_11 X s0 x1 x2
  · refine zj_iload_n 6 1 X kd_M_set_5 rfl rfl rfl ?_
    refine zj_bipush 8 17 X kd_M_set_6 kb_17 rfl ?_
    refine zj_icmp_le 15 11 X kd_M_set_8 rfl rfl (fun _ => ?_) (fun _ => ?_)
    · refine zj_iconst 16 0 X kd_M_set_15 ki_0 rfl ?_
      exact j_M_set_16 X s0 x1 x2 0
    · exact j_M_set_11 X s0 x1 x2
theorem c_M_set {l : Launch} {P : ZP} (hV : ZVok (zmV P)) (s0 : ZS) (x1 : Int32) (x2 : Int32) {z : Int32 × ZS} (h : f_M_set s0 x1 x2 = some z) : zMi l y_M_set b_M_set 3 (some .boolean) 0 0 (zmV P) s0 [.ref (P.1 0), .int x1, .int x2] z :=
  zMi_of (by decide +kernel) rfl rfl (Nat.le_of_ble_eq_true rfl) hV (fun _ X => j_M_set X s0 x1 x2) h
-- FrameMachineModel.status(I)I
theorem kd_M_status_0 : decode b_M_status 0 = .ok (.aload_n 0, 1) := by decide +kernel
theorem kd_M_status_1 : decode b_M_status 1 = .ok (.iconst 0, 1) := by decide +kernel
theorem kd_M_status_2 : decode b_M_status 2 = .ok (.putfield 38, 3) := by decide +kernel
theorem kd_M_status_5 : decode b_M_status 5 = .ok (.aload_n 0, 1) := by decide +kernel
theorem kd_M_status_6 : decode b_M_status 6 = .ok (.iload_n 1, 1) := by decide +kernel
theorem kd_M_status_7 : decode b_M_status 7 = .ok (.invokevirtual 215, 3) := by decide +kernel
theorem kd_M_status_10 : decode b_M_status 10 = .ok (.aload_n 0, 1) := by decide +kernel
theorem kd_M_status_11 : decode b_M_status 11 = .ok (.invokevirtual 204, 3) := by decide +kernel
theorem kd_M_status_14 : decode b_M_status 14 = .ok (.ireturn, 1) := by decide +kernel
noncomputable def f_M_status (s0 : ZS) (x1 : Int32) : Option (Int32 × ZS) :=
  zs_nm (zs_up s0 0 0 0) fun s1 =>
  (f_M_setStatus s1 x1).bind fun s2 =>
  (f_M_packed s2 ).bind fun p3 =>
  some (p3.1, p3.2)
theorem j_M_status {P : ZP} {E : ZE} {A : Nat → Prop} (X : ZX E (zmV P) A "FrameMachineModel" b_M_status 2 (some .int) 2 43) (s0 : ZS) (x1 : Int32) : ZJ E (zmV P) A 2 (zFi E (zmV P) A) 0 [(0, .ref (P.1 0)), (1, .int x1)] [] s0 (f_M_status s0 x1) := by
  unfold f_M_status
  refine zj_aload_n 1 0 X kd_M_status_0 rfl rfl rfl ?_
  refine zj_iconst 2 0 X kd_M_status_1 ki_0 rfl ?_
  refine pf_M_38 5 X kd_M_status_2 rfl ?_
  refine zj_nms (fun s1 => ?_)
  refine zj_aload_n 6 0 X kd_M_status_5 rfl rfl rfl ?_
  refine zj_iload_n 7 1 X kd_M_status_6 rfl rfl rfl ?_
  refine mc_M_215 10 X kd_M_status_7 (Nat.le_of_ble_eq_true rfl) (Nat.le_of_ble_eq_true rfl) (Nat.le_of_ble_eq_true rfl) rfl (fun s2 => ?_)
  refine zj_aload_n 11 0 X kd_M_status_10 rfl rfl rfl ?_
  refine mc_M_204 14 X kd_M_status_11 (Nat.le_of_ble_eq_true rfl) (Nat.le_of_ble_eq_true rfl) (Nat.le_of_ble_eq_true rfl) rfl (fun p3 => ?_)
  exact zj_iret X kd_M_status_14
theorem c_M_status {l : Launch} {P : ZP} (hV : ZVok (zmV P)) (s0 : ZS) (x1 : Int32) {z : Int32 × ZS} (h : f_M_status s0 x1 = some z) : zMi l y_M_status b_M_status 2 (some .int) 2 43 (zmV P) s0 [.ref (P.1 0), .int x1] z :=
  zMi_of (by decide +kernel) rfl rfl (Nat.le_of_ble_eq_true rfl) hV (fun _ X => j_M_status X s0 x1) h
-- FrameMachineModel.get(I)I
theorem kd_M_get_0 : decode b_M_get 0 = .ok (.aload_n 0, 1) := by decide +kernel
theorem kd_M_get_1 : decode b_M_get 1 = .ok (.iload_n 1, 1) := by decide +kernel
theorem kd_M_get_2 : decode b_M_get 2 = .ok (.ifCond .lt 9, 3) := by decide +kernel
theorem kd_M_get_5 : decode b_M_get 5 = .ok (.iload_n 1, 1) := by decide +kernel
theorem kd_M_get_6 : decode b_M_get 6 = .ok (.bipush 18, 2) := by decide +kernel
theorem kd_M_get_8 : decode b_M_get 8 = .ok (.if_icmp .le 7, 3) := by decide +kernel
theorem kd_M_get_11 : decode b_M_get 11 = .ok (.iconst 1, 1) := by decide +kernel
theorem kd_M_get_12 : decode b_M_get 12 = .ok (.goto 4, 3) := by decide +kernel
theorem kd_M_get_15 : decode b_M_get 15 = .ok (.iconst 0, 1) := by decide +kernel
theorem kd_M_get_16 : decode b_M_get 16 = .ok (.putfield 38, 3) := by decide +kernel
theorem kd_M_get_19 : decode b_M_get 19 = .ok (.aload_n 0, 1) := by decide +kernel
theorem kd_M_get_20 : decode b_M_get 20 = .ok (.getfield 38, 3) := by decide +kernel
theorem kd_M_get_23 : decode b_M_get 23 = .ok (.ifCond .le 5, 3) := by decide +kernel
theorem kd_M_get_26 : decode b_M_get 26 = .ok (.iconst 0, 1) := by decide +kernel
theorem kd_M_get_27 : decode b_M_get 27 = .ok (.ireturn, 1) := by decide +kernel
theorem kd_M_get_28 : decode b_M_get 28 = .ok (.iload_n 1, 1) := by decide +kernel
theorem kd_M_get_29 : decode b_M_get 29 = .ok (.bipush 8, 2) := by decide +kernel
theorem kd_M_get_31 : decode b_M_get 31 = .ok (.if_icmp .ge 12, 3) := by decide +kernel
theorem kd_M_get_34 : decode b_M_get 34 = .ok (.aload_n 0, 1) := by decide +kernel
theorem kd_M_get_35 : decode b_M_get 35 = .ok (.getfield 13, 3) := by decide +kernel
theorem kd_M_get_38 : decode b_M_get 38 = .ok (.iload_n 1, 1) := by decide +kernel
theorem kd_M_get_39 : decode b_M_get 39 = .ok (.iaload, 1) := by decide +kernel
theorem kd_M_get_40 : decode b_M_get 40 = .ok (.goto 51, 3) := by decide +kernel
theorem kd_M_get_43 : decode b_M_get 43 = .ok (.iload_n 1, 1) := by decide +kernel
theorem kd_M_get_44 : decode b_M_get 44 = .ok (.bipush 16, 2) := by decide +kernel
theorem kd_M_get_46 : decode b_M_get 46 = .ok (.if_icmp .ge 15, 3) := by decide +kernel
theorem kd_M_get_49 : decode b_M_get 49 = .ok (.aload_n 0, 1) := by decide +kernel
theorem kd_M_get_50 : decode b_M_get 50 = .ok (.getfield 16, 3) := by decide +kernel
theorem kd_M_get_53 : decode b_M_get 53 = .ok (.iload_n 1, 1) := by decide +kernel
theorem kd_M_get_54 : decode b_M_get 54 = .ok (.bipush 8, 2) := by decide +kernel
theorem kd_M_get_56 : decode b_M_get 56 = .ok (.isub, 1) := by decide +kernel
theorem kd_M_get_57 : decode b_M_get 57 = .ok (.iaload, 1) := by decide +kernel
theorem kd_M_get_58 : decode b_M_get 58 = .ok (.goto 33, 3) := by decide +kernel
theorem kd_M_get_61 : decode b_M_get 61 = .ok (.iload_n 1, 1) := by decide +kernel
theorem kd_M_get_62 : decode b_M_get 62 = .ok (.bipush 16, 2) := by decide +kernel
theorem kd_M_get_64 : decode b_M_get 64 = .ok (.if_icmp .ne 10, 3) := by decide +kernel
theorem kd_M_get_67 : decode b_M_get 67 = .ok (.aload_n 0, 1) := by decide +kernel
theorem kd_M_get_68 : decode b_M_get 68 = .ok (.getfield 137, 3) := by decide +kernel
theorem kd_M_get_71 : decode b_M_get 71 = .ok (.goto 20, 3) := by decide +kernel
theorem kd_M_get_74 : decode b_M_get 74 = .ok (.iload_n 1, 1) := by decide +kernel
theorem kd_M_get_75 : decode b_M_get 75 = .ok (.bipush 17, 2) := by decide +kernel
theorem kd_M_get_77 : decode b_M_get 77 = .ok (.if_icmp .ne 10, 3) := by decide +kernel
theorem kd_M_get_80 : decode b_M_get 80 = .ok (.aload_n 0, 1) := by decide +kernel
theorem kd_M_get_81 : decode b_M_get 81 = .ok (.getfield 103, 3) := by decide +kernel
theorem kd_M_get_84 : decode b_M_get 84 = .ok (.goto 7, 3) := by decide +kernel
theorem kd_M_get_87 : decode b_M_get 87 = .ok (.aload_n 0, 1) := by decide +kernel
theorem kd_M_get_88 : decode b_M_get 88 = .ok (.invokevirtual 204, 3) := by decide +kernel
theorem kd_M_get_91 : decode b_M_get 91 = .ok (.ireturn, 1) := by decide +kernel
noncomputable def f_M_get_16 (s0 : ZS) (l1 : Int32) (t0 : Int32) : Option (Int32 × ZS) :=
  zs_nm (zs_up s0 0 0 t0) fun s1 =>
  if (s1 0 0) ≤ 0 then
    if 8 ≤ l1 then
      if 16 ≤ l1 then
        if l1 = 16 then
          some (s1 0 1, s1)
        else
          if l1 = 17 then
            some (s1 0 2, s1)
          else
            (f_M_packed s1 ).bind fun p2 =>
            some (p2.1, p2.2)
      else
        zs_nm (l1 - 8) fun v3 =>
        if v3 < 0 ∨ 8 ≤ v3.toNatClampNeg then none else
        some (s1 3 v3.toNatClampNeg, s1)
    else
      if l1 < 0 ∨ 8 ≤ l1.toNatClampNeg then none else
      some (s1 2 l1.toNatClampNeg, s1)
  else
    some (0, s1)
noncomputable def f_M_get_11 (s0 : ZS) (l1 : Int32) : Option (Int32 × ZS) :=
  f_M_get_16 s0 l1 1
noncomputable def f_M_get (s0 : ZS) (x1 : Int32) : Option (Int32 × ZS) :=
  if x1 < 0 then
    f_M_get_11 s0 x1
  else
    if x1 ≤ 18 then
      f_M_get_16 s0 x1 0
    else
      f_M_get_11 s0 x1
theorem j_M_get_16 {P : ZP} {E : ZE} {A : Nat → Prop} (X : ZX E (zmV P) A "FrameMachineModel" b_M_get 2 (some .int) 1 20) (s0 : ZS) (l1 : Int32) (t0 : Int32) : ZJ E (zmV P) A 2 (zFi E (zmV P) A) 16 [(0, .ref (P.1 0)), (1, .int l1)] [.int t0, .ref (P.1 0)] s0 (f_M_get_16 s0 l1 t0) := by
  unfold f_M_get_16
  refine pf_M_38 19 X kd_M_get_16 rfl ?_
  refine zj_nms (fun s1 => ?_)
  refine zj_aload_n 20 0 X kd_M_get_19 rfl rfl rfl ?_
  refine gf_M_38 23 X kd_M_get_20 rfl ?_
  refine zj_if_le 28 26 X kd_M_get_23 rfl rfl (fun _ => ?_) (fun _ => ?_)
  · refine zj_iload_n 29 1 X kd_M_get_28 rfl rfl rfl ?_
    refine zj_bipush 31 8 X kd_M_get_29 kb_8 rfl ?_
    refine zj_icmp_ge 43 34 X kd_M_get_31 rfl rfl (fun _ => ?_) (fun _ => ?_)
    · refine zj_iload_n 44 1 X kd_M_get_43 rfl rfl rfl ?_
      refine zj_bipush 46 16 X kd_M_get_44 kb_16 rfl ?_
      refine zj_icmp_ge 61 49 X kd_M_get_46 rfl rfl (fun _ => ?_) (fun _ => ?_)
      · refine zj_iload_n 62 1 X kd_M_get_61 rfl rfl rfl ?_
        refine zj_bipush 64 16 X kd_M_get_62 kb_16 rfl ?_
        refine zj_icmp_ne 74 67 X kd_M_get_64 rfl rfl (fun _ => ?_) (fun _ => ?_)
        · refine zj_aload_n 68 0 X kd_M_get_67 rfl rfl rfl ?_
          refine gf_M_137 71 X kd_M_get_68 rfl ?_
          refine zj_goto 91 X kd_M_get_71 rfl ?_
          exact zj_iret X kd_M_get_91
        · refine zj_iload_n 75 1 X kd_M_get_74 rfl rfl rfl ?_
          refine zj_bipush 77 17 X kd_M_get_75 kb_17 rfl ?_
          refine zj_icmp_ne 87 80 X kd_M_get_77 rfl rfl (fun _ => ?_) (fun _ => ?_)
          · refine zj_aload_n 81 0 X kd_M_get_80 rfl rfl rfl ?_
            refine gf_M_103 84 X kd_M_get_81 rfl ?_
            refine zj_goto 91 X kd_M_get_84 rfl ?_
            exact zj_iret X kd_M_get_91
          · refine zj_aload_n 88 0 X kd_M_get_87 rfl rfl rfl ?_
            refine mc_M_204 91 X kd_M_get_88 (Nat.le_of_ble_eq_true rfl) (Nat.le_of_ble_eq_true rfl) (Nat.le_of_ble_eq_true rfl) rfl (fun p2 => ?_)
            exact zj_iret X kd_M_get_91
      · refine zj_aload_n 50 0 X kd_M_get_49 rfl rfl rfl ?_
        refine gf_M_16 53 X kd_M_get_50 rfl ?_
        refine zj_iload_n 54 1 X kd_M_get_53 rfl rfl rfl ?_
        refine zj_bipush 56 8 X kd_M_get_54 kb_8 rfl ?_
        refine zj_isub 57 X kd_M_get_56 rfl ?_
        refine zj_nmi (fun v3 => ?_)
        refine zj_ng (fun hg => ?_)
        refine al_M_3 58 X kd_M_get_57 hg rfl ?_
        refine zj_goto 91 X kd_M_get_58 rfl ?_
        exact zj_iret X kd_M_get_91
    · refine zj_aload_n 35 0 X kd_M_get_34 rfl rfl rfl ?_
      refine gf_M_13 38 X kd_M_get_35 rfl ?_
      refine zj_iload_n 39 1 X kd_M_get_38 rfl rfl rfl ?_
      refine zj_ng (fun hg => ?_)
      refine al_M_2 40 X kd_M_get_39 hg rfl ?_
      refine zj_goto 91 X kd_M_get_40 rfl ?_
      exact zj_iret X kd_M_get_91
  · refine zj_iconst 27 0 X kd_M_get_26 ki_0 rfl ?_
    exact zj_iret X kd_M_get_27
theorem j_M_get_11 {P : ZP} {E : ZE} {A : Nat → Prop} (X : ZX E (zmV P) A "FrameMachineModel" b_M_get 2 (some .int) 1 20) (s0 : ZS) (l1 : Int32) : ZJ E (zmV P) A 2 (zFi E (zmV P) A) 11 [(0, .ref (P.1 0)), (1, .int l1)] [.ref (P.1 0)] s0 (f_M_get_11 s0 l1) := by
  unfold f_M_get_11
  refine zj_iconst 12 1 X kd_M_get_11 ki_1 rfl ?_
  refine zj_goto 16 X kd_M_get_12 rfl ?_
  exact j_M_get_16 X s0 l1 1
theorem j_M_get {P : ZP} {E : ZE} {A : Nat → Prop} (X : ZX E (zmV P) A "FrameMachineModel" b_M_get 2 (some .int) 1 20) (s0 : ZS) (x1 : Int32) : ZJ E (zmV P) A 2 (zFi E (zmV P) A) 0 [(0, .ref (P.1 0)), (1, .int x1)] [] s0 (f_M_get s0 x1) := by
  unfold f_M_get
  refine zj_aload_n 1 0 X kd_M_get_0 rfl rfl rfl ?_
  refine zj_iload_n 2 1 X kd_M_get_1 rfl rfl rfl ?_
  refine zj_if_lt 11 5 X kd_M_get_2 rfl rfl (fun _ => ?_) (fun _ => ?_)
  · exact j_M_get_11 X s0 x1
  · refine zj_iload_n 6 1 X kd_M_get_5 rfl rfl rfl ?_
    refine zj_bipush 8 18 X kd_M_get_6 kb_18 rfl ?_
    refine zj_icmp_le 15 11 X kd_M_get_8 rfl rfl (fun _ => ?_) (fun _ => ?_)
    · refine zj_iconst 16 0 X kd_M_get_15 ki_0 rfl ?_
      exact j_M_get_16 X s0 x1 0
    · exact j_M_get_11 X s0 x1
theorem c_M_get {l : Launch} {P : ZP} (hV : ZVok (zmV P)) (s0 : ZS) (x1 : Int32) {z : Int32 × ZS} (h : f_M_get s0 x1 = some z) : zMi l y_M_get b_M_get 2 (some .int) 1 20 (zmV P) s0 [.ref (P.1 0), .int x1] z :=
  zMi_of (by decide +kernel) rfl rfl (Nat.le_of_ble_eq_true rfl) hV (fun _ X => j_M_get X s0 x1) h
-- FrameMachineModel.gone(I)I
theorem kd_M_gone_0 : decode b_M_gone 0 = .ok (.aload_n 0, 1) := by decide +kernel
theorem kd_M_gone_1 : decode b_M_gone 1 = .ok (.iconst 0, 1) := by decide +kernel
theorem kd_M_gone_2 : decode b_M_gone 2 = .ok (.putfield 38, 3) := by decide +kernel
theorem kd_M_gone_5 : decode b_M_gone 5 = .ok (.iload_n 1, 1) := by decide +kernel
theorem kd_M_gone_6 : decode b_M_gone 6 = .ok (.ifCond .lt 17, 3) := by decide +kernel
theorem kd_M_gone_9 : decode b_M_gone 9 = .ok (.iload_n 1, 1) := by decide +kernel
theorem kd_M_gone_10 : decode b_M_gone 10 = .ok (.bipush 15, 2) := by decide +kernel
theorem kd_M_gone_12 : decode b_M_gone 12 = .ok (.if_icmp .gt 11, 3) := by decide +kernel
theorem kd_M_gone_15 : decode b_M_gone 15 = .ok (.iload_n 1, 1) := by decide +kernel
theorem kd_M_gone_16 : decode b_M_gone 16 = .ok (.aload_n 0, 1) := by decide +kernel
theorem kd_M_gone_17 : decode b_M_gone 17 = .ok (.getfield 61, 3) := by decide +kernel
theorem kd_M_gone_20 : decode b_M_gone 20 = .ok (.if_icmp .lt 7, 3) := by decide +kernel
theorem kd_M_gone_23 : decode b_M_gone 23 = .ok (.iconst (-1), 1) := by decide +kernel
theorem kd_M_gone_24 : decode b_M_gone 24 = .ok (.goto 19, 3) := by decide +kernel
theorem kd_M_gone_27 : decode b_M_gone 27 = .ok (.aload_n 0, 1) := by decide +kernel
theorem kd_M_gone_28 : decode b_M_gone 28 = .ok (.getfield 35, 3) := by decide +kernel
theorem kd_M_gone_31 : decode b_M_gone 31 = .ok (.aload_n 0, 1) := by decide +kernel
theorem kd_M_gone_32 : decode b_M_gone 32 = .ok (.getfield 61, 3) := by decide +kernel
theorem kd_M_gone_35 : decode b_M_gone 35 = .ok (.iconst 1, 1) := by decide +kernel
theorem kd_M_gone_36 : decode b_M_gone 36 = .ok (.isub, 1) := by decide +kernel
theorem kd_M_gone_37 : decode b_M_gone 37 = .ok (.iload_n 1, 1) := by decide +kernel
theorem kd_M_gone_38 : decode b_M_gone 38 = .ok (.isub, 1) := by decide +kernel
theorem kd_M_gone_39 : decode b_M_gone 39 = .ok (.bipush 16, 2) := by decide +kernel
theorem kd_M_gone_41 : decode b_M_gone 41 = .ok (.irem, 1) := by decide +kernel
theorem kd_M_gone_42 : decode b_M_gone 42 = .ok (.iaload, 1) := by decide +kernel
theorem kd_M_gone_43 : decode b_M_gone 43 = .ok (.ireturn, 1) := by decide +kernel
noncomputable def f_M_gone_23 (s0 : ZS)  : Option (Int32 × ZS) :=
  some ((-1), s0)
noncomputable def f_M_gone (s0 : ZS) (x1 : Int32) : Option (Int32 × ZS) :=
  zs_nm (zs_up s0 0 0 0) fun s1 =>
  if x1 < 0 then
    f_M_gone_23 s1
  else
    if 15 < x1 then
      f_M_gone_23 s1
    else
      if x1 < (s1 0 30) then
        zs_nm (zo_irem (((s1 0 30) - 1) - x1) 16) fun v2 =>
        if v2 < 0 ∨ 16 ≤ v2.toNatClampNeg then none else
        some (s1 4 v2.toNatClampNeg, s1)
      else
        f_M_gone_23 s1
theorem j_M_gone_23 {P : ZP} {E : ZE} {A : Nat → Prop} (X : ZX E (zmV P) A "FrameMachineModel" b_M_gone 2 (some .int) 0 0) (s0 : ZS)  : ZJ E (zmV P) A 2 (zFi E (zmV P) A) 23 [] [] s0 (f_M_gone_23 s0) := by
  unfold f_M_gone_23
  refine zj_iconst 24 ((-1)) X kd_M_gone_23 ki_m1 rfl ?_
  refine zj_goto 43 X kd_M_gone_24 rfl ?_
  exact zj_iret X kd_M_gone_43
theorem j_M_gone {P : ZP} {E : ZE} {A : Nat → Prop} (X : ZX E (zmV P) A "FrameMachineModel" b_M_gone 2 (some .int) 0 0) (s0 : ZS) (x1 : Int32) : ZJ E (zmV P) A 2 (zFi E (zmV P) A) 0 [(0, .ref (P.1 0)), (1, .int x1)] [] s0 (f_M_gone s0 x1) := by
  unfold f_M_gone
  refine zj_aload_n 1 0 X kd_M_gone_0 rfl rfl rfl ?_
  refine zj_iconst 2 0 X kd_M_gone_1 ki_0 rfl ?_
  refine pf_M_38 5 X kd_M_gone_2 rfl ?_
  refine zj_nms (fun s1 => ?_)
  refine zj_iload_n 6 1 X kd_M_gone_5 rfl rfl rfl ?_
  refine zj_if_lt 23 9 X kd_M_gone_6 rfl rfl (fun _ => ?_) (fun _ => ?_)
  · refine zj_loc [] (L2 := []) rfl ?_
    exact j_M_gone_23 X s1
  · refine zj_iload_n 10 1 X kd_M_gone_9 rfl rfl rfl ?_
    refine zj_bipush 12 15 X kd_M_gone_10 kb_15 rfl ?_
    refine zj_icmp_gt 23 15 X kd_M_gone_12 rfl rfl (fun _ => ?_) (fun _ => ?_)
    · refine zj_loc [] (L2 := []) rfl ?_
      exact j_M_gone_23 X s1
    · refine zj_iload_n 16 1 X kd_M_gone_15 rfl rfl rfl ?_
      refine zj_aload_n 17 0 X kd_M_gone_16 rfl rfl rfl ?_
      refine gf_M_61 20 X kd_M_gone_17 rfl ?_
      refine zj_icmp_lt 27 23 X kd_M_gone_20 rfl rfl (fun _ => ?_) (fun _ => ?_)
      · refine zj_aload_n 28 0 X kd_M_gone_27 rfl rfl rfl ?_
        refine gf_M_35 31 X kd_M_gone_28 rfl ?_
        refine zj_aload_n 32 0 X kd_M_gone_31 rfl rfl rfl ?_
        refine gf_M_61 35 X kd_M_gone_32 rfl ?_
        refine zj_iconst 36 1 X kd_M_gone_35 ki_1 rfl ?_
        refine zj_isub 37 X kd_M_gone_36 rfl ?_
        refine zj_iload_n 38 1 X kd_M_gone_37 rfl rfl rfl ?_
        refine zj_isub 39 X kd_M_gone_38 rfl ?_
        refine zj_bipush 41 16 X kd_M_gone_39 kb_16 rfl ?_
        refine zj_irem 42 X kd_M_gone_41 (by decide) rfl ?_
        refine zj_nmi (fun v2 => ?_)
        refine zj_ng (fun hg => ?_)
        refine al_M_4 43 X kd_M_gone_42 hg rfl ?_
        exact zj_iret X kd_M_gone_43
      · refine zj_loc [] (L2 := []) rfl ?_
        exact j_M_gone_23 X s1
theorem c_M_gone {l : Launch} {P : ZP} (hV : ZVok (zmV P)) (s0 : ZS) (x1 : Int32) {z : Int32 × ZS} (h : f_M_gone s0 x1 = some z) : zMi l y_M_gone b_M_gone 2 (some .int) 0 0 (zmV P) s0 [.ref (P.1 0), .int x1] z :=
  zMi_of (by decide +kernel) rfl rfl (Nat.le_of_ble_eq_true rfl) hV (fun _ X => j_M_gone X s0 x1) h
