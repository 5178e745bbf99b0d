-- FrameMachine$Devices.receive(I)Z
theorem kd_D_receive_0 : decode b_D_receive 0 = .ok (.aload_n 0, 1) := by decide +kernel
theorem kd_D_receive_1 : decode b_D_receive 1 = .ok (.getfield 29, 3) := by decide +kernel
theorem kd_D_receive_4 : decode b_D_receive 4 = .ok (.ifCond .eq 10, 3) := by decide +kernel
theorem kd_D_receive_7 : decode b_D_receive 7 = .ok (.aload_n 0, 1) := by decide +kernel
theorem kd_D_receive_8 : decode b_D_receive 8 = .ok (.iconst 1, 1) := by decide +kernel
theorem kd_D_receive_9 : decode b_D_receive 9 = .ok (.putfield 35, 3) := by decide +kernel
theorem kd_D_receive_12 : decode b_D_receive 12 = .ok (.iconst 0, 1) := by decide +kernel
theorem kd_D_receive_13 : decode b_D_receive 13 = .ok (.ireturn, 1) := by decide +kernel
theorem kd_D_receive_14 : decode b_D_receive 14 = .ok (.aload_n 0, 1) := by decide +kernel
theorem kd_D_receive_15 : decode b_D_receive 15 = .ok (.iconst 1, 1) := by decide +kernel
theorem kd_D_receive_16 : decode b_D_receive 16 = .ok (.putfield 29, 3) := by decide +kernel
theorem kd_D_receive_19 : decode b_D_receive 19 = .ok (.aload_n 0, 1) := by decide +kernel
theorem kd_D_receive_20 : decode b_D_receive 20 = .ok (.iload_n 1, 1) := by decide +kernel
theorem kd_D_receive_21 : decode b_D_receive 21 = .ok (.putfield 32, 3) := by decide +kernel
theorem kd_D_receive_24 : decode b_D_receive 24 = .ok (.iconst 1, 1) := by decide +kernel
theorem kd_D_receive_25 : decode b_D_receive 25 = .ok (.ireturn, 1) := by decide +kernel
noncomputable def f_D_receive (s0 : ZS) (x1 : Int32) : Option (Int32 × ZS) :=
  if (s0 0 4) = 0 then
    zs_nm (zs_up s0 0 4 1) fun s1 =>
    zs_nm (zs_up s1 0 5 x1) fun s2 =>
    some (1, s2)
  else
    zs_nm (zs_up s0 0 6 1) fun s3 =>
    some (0, s3)
theorem j_D_receive {P : ZP} {E : ZE} {A : Nat → Prop} (X : ZX E (zcV P) A "FrameMachine$Devices" b_D_receive 2 (some .boolean) 0 0) (s0 : ZS) (x1 : Int32) : ZJ E (zcV P) A 2 (zFi E (zcV P) A) 0 [(0, .ref (P.1 1)), (1, .int x1)] [] s0 (f_D_receive s0 x1) := by
  unfold f_D_receive
  refine zj_aload_n 1 0 X kd_D_receive_0 rfl rfl rfl ?_
  refine gf_D_29 4 X kd_D_receive_1 rfl ?_
  refine zj_if_eq 14 7 X kd_D_receive_4 rfl rfl (fun _ => ?_) (fun _ => ?_)
  · refine zj_aload_n 15 0 X kd_D_receive_14 rfl rfl rfl ?_
    refine zj_iconst 16 1 X kd_D_receive_15 ki_1 rfl ?_
    refine pf_D_29 19 X kd_D_receive_16 (Or.inr rfl) rfl ?_
    refine zj_nms (fun s1 => ?_)
    refine zj_aload_n 20 0 X kd_D_receive_19 rfl rfl rfl ?_
    refine zj_iload_n 21 1 X kd_D_receive_20 rfl rfl rfl ?_
    refine pf_D_32 24 X kd_D_receive_21 rfl ?_
    refine zj_nms (fun s2 => ?_)
    refine zj_iconst 25 1 X kd_D_receive_24 ki_1 rfl ?_
    exact zj_zret X kd_D_receive_25 (Or.inr rfl)
  · refine zj_aload_n 8 0 X kd_D_receive_7 rfl rfl rfl ?_
    refine zj_iconst 9 1 X kd_D_receive_8 ki_1 rfl ?_
    refine pf_D_35 12 X kd_D_receive_9 (Or.inr rfl) rfl ?_
    refine zj_nms (fun s3 => ?_)
    refine zj_iconst 13 0 X kd_D_receive_12 ki_0 rfl ?_
    exact zj_zret X kd_D_receive_13 (Or.inl rfl)
theorem c_D_receive {l : Launch} {P : ZP} (hV : ZVok (zcV P)) (s0 : ZS) (x1 : Int32) {z : Int32 × ZS} (h : f_D_receive s0 x1 = some z) : zMi l y_D_receive b_D_receive 2 (some .boolean) 0 0 (zcV P) s0 [.ref (P.1 1), .int x1] z :=
  zMi_of (by decide +kernel) rfl rfl (Nat.le_of_ble_eq_true rfl) hV (fun _ X => j_D_receive X s0 x1) h
theorem kc_F_99 : zCV "FrameMachine" 99 y_D_receive b_D_receive 2 (some .boolean) 1 := ⟨⟨kw_755, kw_756, kw_757, kw_2, kw_758⟩, by decide +kernel, by decide +kernel, by decide +kernel⟩
theorem mc_F_99 {ρ : Type} {E : ZE} {P : ZP} {A : Nat → Prop} {cc : ByteArray} {nL : Nat} {ret : Option FieldType} {fr lo : Nat} {F : ρ → State → Prop} {pc : Nat} {L : List (Nat × Value)} {rest : List Value} {σ : ZS} {x1 : Int32} {K : Int32 × ZS → Option ρ} (q : Nat) (X : ZX E (zcV P) A "FrameMachine" cc nL ret fr lo) (d : decode cc pc = .ok (.invokevirtual 99, 3)) (hfr : 0 + 1 ≤ fr) (hlo : 8 + (2 + 11) + 0 ≤ lo) (hr : (rest.map fun v => v.category).sum ≤ 8) (hq : pc + 3 = q) (kk : ∀ p : Int32 × ZS, ZJ E (zcV P) A nL F q L (.int p.1 :: rest) p.2 (K p)) : ZJ E (zcV P) A nL F pc L (.int x1 :: .ref (P.1 1) :: rest) σ ((f_D_receive σ x1).bind K) :=
  zj_cVi q 1 1 (As := [.int x1]) (rest := rest) X kc_F_99 hfr hlo (fun p h => c_D_receive (zx_v X) σ x1 h) rfl rfl rfl hr d hq kk
-- FrameMachine$Devices.clear()V
theorem kd_D_clear_0 : decode b_D_clear 0 = .ok (.aload_n 0, 1) := by decide +kernel
theorem kd_D_clear_1 : decode b_D_clear 1 = .ok (.sipush 256, 3) := by decide +kernel
theorem kd_D_clear_4 : decode b_D_clear 4 = .ok (.putfield 11, 3) := by decide +kernel
theorem kd_D_clear_7 : decode b_D_clear 7 = .ok (.aload_n 0, 1) := by decide +kernel
theorem kd_D_clear_8 : decode b_D_clear 8 = .ok (.sipush 256, 3) := by decide +kernel
theorem kd_D_clear_11 : decode b_D_clear 11 = .ok (.putfield 15, 3) := by decide +kernel
theorem kd_D_clear_14 : decode b_D_clear 14 = .ok (.aload_n 0, 1) := by decide +kernel
theorem kd_D_clear_15 : decode b_D_clear 15 = .ok (.iconst 0, 1) := by decide +kernel
theorem kd_D_clear_16 : decode b_D_clear 16 = .ok (.putfield 22, 3) := by decide +kernel
theorem kd_D_clear_19 : decode b_D_clear 19 = .ok (.aload_n 0, 1) := by decide +kernel
theorem kd_D_clear_20 : decode b_D_clear 20 = .ok (.iconst 0, 1) := by decide +kernel
theorem kd_D_clear_21 : decode b_D_clear 21 = .ok (.putfield 26, 3) := by decide +kernel
theorem kd_D_clear_24 : decode b_D_clear 24 = .ok (.aload_n 0, 1) := by decide +kernel
theorem kd_D_clear_25 : decode b_D_clear 25 = .ok (.iconst 0, 1) := by decide +kernel
theorem kd_D_clear_26 : decode b_D_clear 26 = .ok (.putfield 29, 3) := by decide +kernel
theorem kd_D_clear_29 : decode b_D_clear 29 = .ok (.aload_n 0, 1) := by decide +kernel
theorem kd_D_clear_30 : decode b_D_clear 30 = .ok (.iconst 0, 1) := by decide +kernel
theorem kd_D_clear_31 : decode b_D_clear 31 = .ok (.putfield 32, 3) := by decide +kernel
theorem kd_D_clear_34 : decode b_D_clear 34 = .ok (.aload_n 0, 1) := by decide +kernel
theorem kd_D_clear_35 : decode b_D_clear 35 = .ok (.iconst 0, 1) := by decide +kernel
theorem kd_D_clear_36 : decode b_D_clear 36 = .ok (.putfield 35, 3) := by decide +kernel
theorem kd_D_clear_39 : decode b_D_clear 39 = .ok (.aload_n 0, 1) := by decide +kernel
theorem kd_D_clear_40 : decode b_D_clear 40 = .ok (.iconst 0, 1) := by decide +kernel
theorem kd_D_clear_41 : decode b_D_clear 41 = .ok (.putfield 38, 3) := by decide +kernel
theorem kd_D_clear_44 : decode b_D_clear 44 = .ok (.aload_n 0, 1) := by decide +kernel
theorem kd_D_clear_45 : decode b_D_clear 45 = .ok (.iconst 0, 1) := by decide +kernel
theorem kd_D_clear_46 : decode b_D_clear 46 = .ok (.putfield 41, 3) := by decide +kernel
theorem kd_D_clear_49 : decode b_D_clear 49 = .ok (.return_, 1) := by decide +kernel
noncomputable def f_D_clear (s0 : ZS)  : Option (ZS) :=
  zs_nm (zs_up s0 0 0 256) fun s1 =>
  zs_nm (zs_up s1 0 1 256) fun s2 =>
  zs_nm (zs_up s2 0 2 0) fun s3 =>
  zs_nm (zs_up s3 0 3 0) fun s4 =>
  zs_nm (zs_up s4 0 4 0) fun s5 =>
  zs_nm (zs_up s5 0 5 0) fun s6 =>
  zs_nm (zs_up s6 0 6 0) fun s7 =>
  zs_nm (zs_up s7 0 7 0) fun s8 =>
  zs_nm (zs_up s8 0 8 0) fun s9 =>
  some s9
theorem j_D_clear {P : ZP} {E : ZE} {A : Nat → Prop} (X : ZX E (zcV P) A "FrameMachine$Devices" b_D_clear 1 none 0 0) (s0 : ZS)  : ZJ E (zcV P) A 1 (zFv E (zcV P) A) 0 [(0, .ref (P.1 1))] [] s0 (f_D_clear s0) := by
  unfold f_D_clear
  refine zj_aload_n 1 0 X kd_D_clear_0 rfl rfl rfl ?_
  refine zj_sipush 4 256 X kd_D_clear_1 ks_256 rfl ?_
  refine pf_D_11 7 X kd_D_clear_4 rfl ?_
  refine zj_nms (fun s1 => ?_)
  refine zj_aload_n 8 0 X kd_D_clear_7 rfl rfl rfl ?_
  refine zj_sipush 11 256 X kd_D_clear_8 ks_256 rfl ?_
  refine pf_D_15 14 X kd_D_clear_11 rfl ?_
  refine zj_nms (fun s2 => ?_)
  refine zj_aload_n 15 0 X kd_D_clear_14 rfl rfl rfl ?_
  refine zj_iconst 16 0 X kd_D_clear_15 ki_0 rfl ?_
  refine pf_D_22 19 X kd_D_clear_16 (Or.inl rfl) rfl ?_
  refine zj_nms (fun s3 => ?_)
  refine zj_aload_n 20 0 X kd_D_clear_19 rfl rfl rfl ?_
  refine zj_iconst 21 0 X kd_D_clear_20 ki_0 rfl ?_
  refine pf_D_26 24 X kd_D_clear_21 (Or.inl rfl) rfl ?_
  refine zj_nms (fun s4 => ?_)
  refine zj_aload_n 25 0 X kd_D_clear_24 rfl rfl rfl ?_
  refine zj_iconst 26 0 X kd_D_clear_25 ki_0 rfl ?_
  refine pf_D_29 29 X kd_D_clear_26 (Or.inl rfl) rfl ?_
  refine zj_nms (fun s5 => ?_)
  refine zj_aload_n 30 0 X kd_D_clear_29 rfl rfl rfl ?_
  refine zj_iconst 31 0 X kd_D_clear_30 ki_0 rfl ?_
  refine pf_D_32 34 X kd_D_clear_31 rfl ?_
  refine zj_nms (fun s6 => ?_)
  refine zj_aload_n 35 0 X kd_D_clear_34 rfl rfl rfl ?_
  refine zj_iconst 36 0 X kd_D_clear_35 ki_0 rfl ?_
  refine pf_D_35 39 X kd_D_clear_36 (Or.inl rfl) rfl ?_
  refine zj_nms (fun s7 => ?_)
  refine zj_aload_n 40 0 X kd_D_clear_39 rfl rfl rfl ?_
  refine zj_iconst 41 0 X kd_D_clear_40 ki_0 rfl ?_
  refine pf_D_38 44 X kd_D_clear_41 rfl ?_
  refine zj_nms (fun s8 => ?_)
  refine zj_aload_n 45 0 X kd_D_clear_44 rfl rfl rfl ?_
  refine zj_iconst 46 0 X kd_D_clear_45 ki_0 rfl ?_
  refine pf_D_41 49 X kd_D_clear_46 rfl ?_
  refine zj_nms (fun s9 => ?_)
  exact zj_vret X kd_D_clear_49
theorem c_D_clear {l : Launch} {P : ZP} (hV : ZVok (zcV P)) (s0 : ZS)  {z : ZS} (h : f_D_clear s0  = some z) : zMv l y_D_clear b_D_clear 1 none 0 0 (zcV P) s0 [.ref (P.1 1)] z :=
  zMv_of (by decide +kernel) rfl rfl (Nat.le_of_ble_eq_true rfl) hV (fun _ X => j_D_clear X s0 ) h
theorem kc_F_117 : zCV "FrameMachine" 117 y_D_clear b_D_clear 1 none 0 := ⟨⟨kw_337, kw_338, kw_339, kw_2, kw_340⟩, by decide +kernel, by decide +kernel, by decide +kernel⟩
theorem mc_F_117 {ρ : Type} {E : ZE} {P : ZP} {A : Nat → Prop} {cc : ByteArray} {nL : Nat} {ret : Option FieldType} {fr lo : Nat} {F : ρ → State → Prop} {pc : Nat} {L : List (Nat × Value)} {rest : List Value} {σ : ZS}  {K : ZS → Option ρ} (q : Nat) (X : ZX E (zcV P) A "FrameMachine" cc nL ret fr lo) (d : decode cc pc = .ok (.invokevirtual 117, 3)) (hfr : 0 + 1 ≤ fr) (hlo : 8 + (1 + 11) + 0 ≤ lo) (hr : (rest.map fun v => v.category).sum ≤ 8) (hq : pc + 3 = q) (kk : ∀ p : ZS, ZJ E (zcV P) A nL F q L (rest) p (K p)) : ZJ E (zcV P) A nL F pc L (.ref (P.1 1) :: rest) σ ((f_D_clear σ ).bind K) :=
  zj_cVv q 1 1 (As := []) (rest := rest) X kc_F_117 hfr hlo (fun p h => c_D_clear (zx_v X) σ  h) rfl rfl rfl hr d hq kk
-- FrameMachine.reset()I
theorem kd_F_reset_0 : decode b_F_reset 0 = .ok (.aload_n 0, 1) := by decide +kernel
theorem kd_F_reset_1 : decode b_F_reset 1 = .ok (.getfield 51, 3) := by decide +kernel
theorem kd_F_reset_4 : decode b_F_reset 4 = .ok (.iconst 0, 1) := by decide +kernel
theorem kd_F_reset_5 : decode b_F_reset 5 = .ok (.putfield 102, 3) := by decide +kernel
theorem kd_F_reset_8 : decode b_F_reset 8 = .ok (.aload_n 0, 1) := by decide +kernel
theorem kd_F_reset_9 : decode b_F_reset 9 = .ok (.getfield 42, 3) := by decide +kernel
theorem kd_F_reset_12 : decode b_F_reset 12 = .ok (.iconst 0, 1) := by decide +kernel
theorem kd_F_reset_13 : decode b_F_reset 13 = .ok (.putfield 106, 3) := by decide +kernel
theorem kd_F_reset_16 : decode b_F_reset 16 = .ok (.aload_n 0, 1) := by decide +kernel
theorem kd_F_reset_17 : decode b_F_reset 17 = .ok (.getfield 28, 3) := by decide +kernel
theorem kd_F_reset_20 : decode b_F_reset 20 = .ok (.aload_n 0, 1) := by decide +kernel
theorem kd_F_reset_21 : decode b_F_reset 21 = .ok (.getfield 28, 3) := by decide +kernel
theorem kd_F_reset_24 : decode b_F_reset 24 = .ok (.getfield 87, 3) := by decide +kernel
theorem kd_F_reset_27 : decode b_F_reset 27 = .ok (.sipush 8192, 3) := by decide +kernel
theorem kd_F_reset_30 : decode b_F_reset 30 = .ok (.ior, 1) := by decide +kernel
theorem kd_F_reset_31 : decode b_F_reset 31 = .ok (.sipush 1792, 3) := by decide +kernel
theorem kd_F_reset_34 : decode b_F_reset 34 = .ok (.ior, 1) := by decide +kernel
theorem kd_F_reset_35 : decode b_F_reset 35 = .ok (.ldc 109, 2) := by decide +kernel
theorem kd_F_reset_37 : decode b_F_reset 37 = .ok (.iand, 1) := by decide +kernel
theorem kd_F_reset_38 : decode b_F_reset 38 = .ok (.invokevirtual 83, 3) := by decide +kernel
theorem kd_F_reset_41 : decode b_F_reset 41 = .ok (.aload_n 0, 1) := by decide +kernel
theorem kd_F_reset_42 : decode b_F_reset 42 = .ok (.getfield 28, 3) := by decide +kernel
theorem kd_F_reset_45 : decode b_F_reset 45 = .ok (.getfield 110, 3) := by decide +kernel
theorem kd_F_reset_48 : decode b_F_reset 48 = .ok (.bipush 7, 2) := by decide +kernel
theorem kd_F_reset_50 : decode b_F_reset 50 = .ok (.aload_n 0, 1) := by decide +kernel
theorem kd_F_reset_51 : decode b_F_reset 51 = .ok (.getfield 21, 3) := by decide +kernel
theorem kd_F_reset_54 : decode b_F_reset 54 = .ok (.iconst 0, 1) := by decide +kernel
theorem kd_F_reset_55 : decode b_F_reset 55 = .ok (.iconst 2, 1) := by decide +kernel
theorem kd_F_reset_56 : decode b_F_reset 56 = .ok (.invokevirtual 73, 3) := by decide +kernel
theorem kd_F_reset_59 : decode b_F_reset 59 = .ok (.iastore, 1) := by decide +kernel
theorem kd_F_reset_60 : decode b_F_reset 60 = .ok (.aload_n 0, 1) := by decide +kernel
theorem kd_F_reset_61 : decode b_F_reset 61 = .ok (.getfield 28, 3) := by decide +kernel
theorem kd_F_reset_64 : decode b_F_reset 64 = .ok (.aload_n 0, 1) := by decide +kernel
theorem kd_F_reset_65 : decode b_F_reset 65 = .ok (.getfield 21, 3) := by decide +kernel
theorem kd_F_reset_68 : decode b_F_reset 68 = .ok (.iconst 4, 1) := by decide +kernel
theorem kd_F_reset_69 : decode b_F_reset 69 = .ok (.iconst 2, 1) := by decide +kernel
theorem kd_F_reset_70 : decode b_F_reset 70 = .ok (.invokevirtual 73, 3) := by decide +kernel
theorem kd_F_reset_73 : decode b_F_reset 73 = .ok (.putfield 114, 3) := by decide +kernel
theorem kd_F_reset_76 : decode b_F_reset 76 = .ok (.aload_n 0, 1) := by decide +kernel
theorem kd_F_reset_77 : decode b_F_reset 77 = .ok (.getfield 12, 3) := by decide +kernel
theorem kd_F_reset_80 : decode b_F_reset 80 = .ok (.invokevirtual 117, 3) := by decide +kernel
theorem kd_F_reset_83 : decode b_F_reset 83 = .ok (.aload_n 0, 1) := by decide +kernel
theorem kd_F_reset_84 : decode b_F_reset 84 = .ok (.getfield 28, 3) := by decide +kernel
theorem kd_F_reset_87 : decode b_F_reset 87 = .ok (.getfield 114, 3) := by decide +kernel
theorem kd_F_reset_90 : decode b_F_reset 90 = .ok (.ireturn, 1) := by decide +kernel
noncomputable def f_F_reset (s0 : ZS)  : Option (Int32 × ZS) :=
  zs_nm (zs_up s0 0 20 0) fun s1 =>
  zs_nm (zs_up s1 0 18 0) fun s2 =>
  (f_G_changeStatus s2 ((((s2 0 15) ||| 8192) ||| 1792) &&& ((-32769)))).bind fun s3 =>
  (f_B_read s3 0 2).bind fun p4 =>
  if (7 : Int32) < 0 ∨ 8 ≤ (7 : Int32).toNatClampNeg then none else
  zs_nm (zs_up p4.2 3 (7 : Int32).toNatClampNeg p4.1) fun s5 =>
  (f_B_read s5 4 2).bind fun p6 =>
  zs_nm (zs_up p6.2 0 14 p6.1) fun s7 =>
  (f_D_clear s7 ).bind fun s8 =>
  some (s8 0 14, s8)
theorem j_F_reset {P : ZP} {E : ZE} {A : Nat → Prop} (X : ZX E (zcV P) A "FrameMachine" b_F_reset 1 (some .int) 2 49) (s0 : ZS)  : ZJ E (zcV P) A 1 (zFi E (zcV P) A) 0 [(0, .ref (P.1 0))] [] s0 (f_F_reset s0) := by
  unfold f_F_reset
  refine zj_aload_n 1 0 X kd_F_reset_0 rfl rfl rfl ?_
  refine gf_F_51 4 X kd_F_reset_1 rfl ?_
  refine zj_iconst 5 0 X kd_F_reset_4 ki_0 rfl ?_
  refine pf_F_102 8 X kd_F_reset_5 (Or.inl rfl) rfl ?_
  refine zj_nms (fun s1 => ?_)
  refine zj_aload_n 9 0 X kd_F_reset_8 rfl rfl rfl ?_
  refine gf_F_42 12 X kd_F_reset_9 rfl ?_
  refine zj_iconst 13 0 X kd_F_reset_12 ki_0 rfl ?_
  refine pf_F_106 16 X kd_F_reset_13 (Or.inl rfl) rfl ?_
  refine zj_nms (fun s2 => ?_)
  refine zj_aload_n 17 0 X kd_F_reset_16 rfl rfl rfl ?_
  refine gf_F_28 20 X kd_F_reset_17 rfl ?_
  refine zj_aload_n 21 0 X kd_F_reset_20 rfl rfl rfl ?_
  refine gf_F_28 24 X kd_F_reset_21 rfl ?_
  refine gf_F_87 27 X kd_F_reset_24 rfl ?_
  refine zj_sipush 30 8192 X kd_F_reset_27 ks_8192 rfl ?_
  refine zj_ior 31 X kd_F_reset_30 rfl ?_
  refine zj_sipush 34 1792 X kd_F_reset_31 ks_1792 rfl ?_
  refine zj_ior 35 X kd_F_reset_34 rfl ?_
  refine zj_ldc 37 ((-32769)) X kd_F_reset_35 kw_322 rfl ?_
  refine zj_iand 38 X kd_F_reset_37 rfl ?_
  refine mc_F_83 41 X kd_F_reset_38 (Nat.le_of_ble_eq_true rfl) (Nat.le_of_ble_eq_true rfl) (Nat.le_of_ble_eq_true rfl) rfl (fun s3 => ?_)
  refine zj_aload_n 42 0 X kd_F_reset_41 rfl rfl rfl ?_
  refine gf_F_28 45 X kd_F_reset_42 rfl ?_
  refine gf_F_110 48 X kd_F_reset_45 rfl ?_
  refine zj_bipush 50 7 X kd_F_reset_48 kb_7 rfl ?_
  refine zj_aload_n 51 0 X kd_F_reset_50 rfl rfl rfl ?_
  refine gf_F_21 54 X kd_F_reset_51 rfl ?_
  refine zj_iconst 55 0 X kd_F_reset_54 ki_0 rfl ?_
  refine zj_iconst 56 2 X kd_F_reset_55 ki_2 rfl ?_
  refine mc_F_73 59 X kd_F_reset_56 (Nat.le_of_ble_eq_true rfl) (Nat.le_of_ble_eq_true rfl) (Nat.le_of_ble_eq_true rfl) rfl (fun p4 => ?_)
  refine zj_ng (fun hg => ?_)
  refine as_C_3 60 X kd_F_reset_59 hg rfl ?_
  refine zj_nms (fun s5 => ?_)
  refine zj_aload_n 61 0 X kd_F_reset_60 rfl rfl rfl ?_
  refine gf_F_28 64 X kd_F_reset_61 rfl ?_
  refine zj_aload_n 65 0 X kd_F_reset_64 rfl rfl rfl ?_
  refine gf_F_21 68 X kd_F_reset_65 rfl ?_
  refine zj_iconst 69 4 X kd_F_reset_68 ki_4 rfl ?_
  refine zj_iconst 70 2 X kd_F_reset_69 ki_2 rfl ?_
  refine mc_F_73 73 X kd_F_reset_70 (Nat.le_of_ble_eq_true rfl) (Nat.le_of_ble_eq_true rfl) (Nat.le_of_ble_eq_true rfl) rfl (fun p6 => ?_)
  refine pf_F_114 76 X kd_F_reset_73 rfl ?_
  refine zj_nms (fun s7 => ?_)
  refine zj_aload_n 77 0 X kd_F_reset_76 rfl rfl rfl ?_
  refine gf_F_12 80 X kd_F_reset_77 rfl ?_
  refine mc_F_117 83 X kd_F_reset_80 (Nat.le_of_ble_eq_true rfl) (Nat.le_of_ble_eq_true rfl) (Nat.le_of_ble_eq_true rfl) rfl (fun s8 => ?_)
  refine zj_aload_n 84 0 X kd_F_reset_83 rfl rfl rfl ?_
  refine gf_F_28 87 X kd_F_reset_84 rfl ?_
  refine gf_F_114 90 X kd_F_reset_87 rfl ?_
  exact zj_iret X kd_F_reset_90
theorem c_F_reset {l : Launch} {P : ZP} (hV : ZVok (zcV P)) (s0 : ZS)  {z : Int32 × ZS} (h : f_F_reset s0  = some z) : zMi l y_F_reset b_F_reset 1 (some .int) 2 49 (zcV P) s0 [.ref (P.1 0)] z :=
  zMi_of (by decide +kernel) rfl rfl (Nat.le_of_ble_eq_true rfl) hV (fun _ X => j_F_reset X s0 ) h
-- FrameMachine$Registers.value(I)I
theorem kd_G_value_0 : decode b_G_value 0 = .ok (.iload_n 1, 1) := by decide +kernel
theorem kd_G_value_1 : decode b_G_value 1 = .ok (.bipush 8, 2) := by decide +kernel
theorem kd_G_value_3 : decode b_G_value 3 = .ok (.if_icmp .ge 13, 3) := by decide +kernel
theorem kd_G_value_6 : decode b_G_value 6 = .ok (.aload_n 0, 1) := by decide +kernel
theorem kd_G_value_7 : decode b_G_value 7 = .ok (.getfield 9, 3) := by decide +kernel
theorem kd_G_value_10 : decode b_G_value 10 = .ok (.iload_n 1, 1) := by decide +kernel
theorem kd_G_value_11 : decode b_G_value 11 = .ok (.bipush 7, 2) := by decide +kernel
theorem kd_G_value_13 : decode b_G_value 13 = .ok (.iand, 1) := by decide +kernel
theorem kd_G_value_14 : decode b_G_value 14 = .ok (.iaload, 1) := by decide +kernel
theorem kd_G_value_15 : decode b_G_value 15 = .ok (.ireturn, 1) := by decide +kernel
theorem kd_G_value_16 : decode b_G_value 16 = .ok (.iload_n 1, 1) := by decide +kernel
theorem kd_G_value_17 : decode b_G_value 17 = .ok (.bipush 16, 2) := by decide +kernel
theorem kd_G_value_19 : decode b_G_value 19 = .ok (.if_icmp .ge 13, 3) := by decide +kernel
theorem kd_G_value_22 : decode b_G_value 22 = .ok (.aload_n 0, 1) := by decide +kernel
theorem kd_G_value_23 : decode b_G_value 23 = .ok (.getfield 15, 3) := by decide +kernel
theorem kd_G_value_26 : decode b_G_value 26 = .ok (.iload_n 1, 1) := by decide +kernel
theorem kd_G_value_27 : decode b_G_value 27 = .ok (.bipush 7, 2) := by decide +kernel
theorem kd_G_value_29 : decode b_G_value 29 = .ok (.iand, 1) := by decide +kernel
theorem kd_G_value_30 : decode b_G_value 30 = .ok (.iaload, 1) := by decide +kernel
theorem kd_G_value_31 : decode b_G_value 31 = .ok (.ireturn, 1) := by decide +kernel
theorem kd_G_value_32 : decode b_G_value 32 = .ok (.iload_n 1, 1) := by decide +kernel
theorem kd_G_value_33 : decode b_G_value 33 = .ok (.bipush 16, 2) := by decide +kernel
theorem kd_G_value_35 : decode b_G_value 35 = .ok (.if_icmp .ne 10, 3) := by decide +kernel
theorem kd_G_value_38 : decode b_G_value 38 = .ok (.aload_n 0, 1) := by decide +kernel
theorem kd_G_value_39 : decode b_G_value 39 = .ok (.getfield 22, 3) := by decide +kernel
theorem kd_G_value_42 : decode b_G_value 42 = .ok (.goto 20, 3) := by decide +kernel
theorem kd_G_value_45 : decode b_G_value 45 = .ok (.iload_n 1, 1) := by decide +kernel
theorem kd_G_value_46 : decode b_G_value 46 = .ok (.bipush 17, 2) := by decide +kernel
theorem kd_G_value_48 : decode b_G_value 48 = .ok (.if_icmp .ne 10, 3) := by decide +kernel
theorem kd_G_value_51 : decode b_G_value 51 = .ok (.aload_n 0, 1) := by decide +kernel
theorem kd_G_value_52 : decode b_G_value 52 = .ok (.getfield 25, 3) := by decide +kernel
theorem kd_G_value_55 : decode b_G_value 55 = .ok (.goto 7, 3) := by decide +kernel
theorem kd_G_value_58 : decode b_G_value 58 = .ok (.aload_n 0, 1) := by decide +kernel
theorem kd_G_value_59 : decode b_G_value 59 = .ok (.getfield 18, 3) := by decide +kernel
theorem kd_G_value_62 : decode b_G_value 62 = .ok (.ireturn, 1) := by decide +kernel
noncomputable def f_G_value (s0 : ZS) (x1 : Int32) : Option (Int32 × ZS) :=
  if 8 ≤ x1 then
    if 16 ≤ x1 then
      if x1 = 16 then
        some (s0 0 13, s0)
      else
        if x1 = 17 then
          some (s0 0 14, s0)
        else
          some (s0 0 15, s0)
    else
      zs_nm (x1 &&& 7) fun v1 =>
      if v1 < 0 ∨ 8 ≤ v1.toNatClampNeg then none else
      some (s0 3 v1.toNatClampNeg, s0)
  else
    zs_nm (x1 &&& 7) fun v2 =>
    if v2 < 0 ∨ 8 ≤ v2.toNatClampNeg then none else
    some (s0 2 v2.toNatClampNeg, s0)
theorem j_G_value {P : ZP} {E : ZE} {A : Nat → Prop} (X : ZX E (zcV P) A "FrameMachine$Registers" b_G_value 2 (some .int) 0 0) (s0 : ZS) (x1 : Int32) : ZJ E (zcV P) A 2 (zFi E (zcV P) A) 0 [(0, .ref (P.1 3)), (1, .int x1)] [] s0 (f_G_value s0 x1) := by
  unfold f_G_value
  refine zj_iload_n 1 1 X kd_G_value_0 rfl rfl rfl ?_
  refine zj_bipush 3 8 X kd_G_value_1 kb_8 rfl ?_
  refine zj_icmp_ge 16 6 X kd_G_value_3 rfl rfl (fun _ => ?_) (fun _ => ?_)
  · refine zj_iload_n 17 1 X kd_G_value_16 rfl rfl rfl ?_
    refine zj_bipush 19 16 X kd_G_value_17 kb_16 rfl ?_
    refine zj_icmp_ge 32 22 X kd_G_value_19 rfl rfl (fun _ => ?_) (fun _ => ?_)
    · refine zj_iload_n 33 1 X kd_G_value_32 rfl rfl rfl ?_
      refine zj_bipush 35 16 X kd_G_value_33 kb_16 rfl ?_
      refine zj_icmp_ne 45 38 X kd_G_value_35 rfl rfl (fun _ => ?_) (fun _ => ?_)
      · refine zj_aload_n 39 0 X kd_G_value_38 rfl rfl rfl ?_
        refine gf_G_22 42 X kd_G_value_39 rfl ?_
        refine zj_goto 62 X kd_G_value_42 rfl ?_
        exact zj_iret X kd_G_value_62
      · refine zj_iload_n 46 1 X kd_G_value_45 rfl rfl rfl ?_
        refine zj_bipush 48 17 X kd_G_value_46 kb_17 rfl ?_
        refine zj_icmp_ne 58 51 X kd_G_value_48 rfl rfl (fun _ => ?_) (fun _ => ?_)
        · refine zj_aload_n 52 0 X kd_G_value_51 rfl rfl rfl ?_
          refine gf_G_25 55 X kd_G_value_52 rfl ?_
          refine zj_goto 62 X kd_G_value_55 rfl ?_
          exact zj_iret X kd_G_value_62
        · refine zj_aload_n 59 0 X kd_G_value_58 rfl rfl rfl ?_
          refine gf_G_18 62 X kd_G_value_59 rfl ?_
          exact zj_iret X kd_G_value_62
    · refine zj_aload_n 23 0 X kd_G_value_22 rfl rfl rfl ?_
      refine gf_G_15 26 X kd_G_value_23 rfl ?_
      refine zj_iload_n 27 1 X kd_G_value_26 rfl rfl rfl ?_
      refine zj_bipush 29 7 X kd_G_value_27 kb_7 rfl ?_
      refine zj_iand 30 X kd_G_value_29 rfl ?_
      refine zj_nmi (fun v1 => ?_)
      refine zj_ng (fun hg => ?_)
      refine al_C_3 31 X kd_G_value_30 hg rfl ?_
      exact zj_iret X kd_G_value_31
  · refine zj_aload_n 7 0 X kd_G_value_6 rfl rfl rfl ?_
    refine gf_G_9 10 X kd_G_value_7 rfl ?_
    refine zj_iload_n 11 1 X kd_G_value_10 rfl rfl rfl ?_
    refine zj_bipush 13 7 X kd_G_value_11 kb_7 rfl ?_
    refine zj_iand 14 X kd_G_value_13 rfl ?_
    refine zj_nmi (fun v2 => ?_)
    refine zj_ng (fun hg => ?_)
    refine al_C_2 15 X kd_G_value_14 hg rfl ?_
    exact zj_iret X kd_G_value_15
theorem c_G_value {l : Launch} {P : ZP} (hV : ZVok (zcV P)) (s0 : ZS) (x1 : Int32) {z : Int32 × ZS} (h : f_G_value s0 x1 = some z) : zMi l y_G_value b_G_value 2 (some .int) 0 0 (zcV P) s0 [.ref (P.1 3), .int x1] z :=
  zMi_of (by decide +kernel) rfl rfl (Nat.le_of_ble_eq_true rfl) hV (fun _ X => j_G_value X s0 x1) h
theorem kc_F_120 : zCV "FrameMachine" 120 y_G_value b_G_value 2 (some .int) 1 := ⟨⟨kw_766, kw_767, kw_768, kw_4, kw_769⟩, by decide +kernel, by decide +kernel, by decide +kernel⟩
theorem mc_F_120 {ρ : Type} {E : ZE} {P : ZP} {A : Nat → Prop} {cc : ByteArray} {nL : Nat} {ret : Option FieldType} {fr lo : Nat} {F : ρ → State → Prop} {pc : Nat} {L : List (Nat × Value)} {rest : List Value} {σ : ZS} {x1 : Int32} {K : Int32 × ZS → Option ρ} (q : Nat) (X : ZX E (zcV P) A "FrameMachine" cc nL ret fr lo) (d : decode cc pc = .ok (.invokevirtual 120, 3)) (hfr : 0 + 1 ≤ fr) (hlo : 8 + (2 + 11) + 0 ≤ lo) (hr : (rest.map fun v => v.category).sum ≤ 8) (hq : pc + 3 = q) (kk : ∀ p : Int32 × ZS, ZJ E (zcV P) A nL F q L (.int p.1 :: rest) p.2 (K p)) : ZJ E (zcV P) A nL F pc L (.int x1 :: .ref (P.1 3) :: rest) σ ((f_G_value σ x1).bind K) :=
  zj_cVi q 3 3 (As := [.int x1]) (rest := rest) X kc_F_120 hfr hlo (fun p h => c_G_value (zx_v X) σ x1 h) rfl rfl rfl hr d hq kk
-- FrameMachine$Devices.sentBefore(I)I
theorem kd_D_sentBefore_0 : decode b_D_sentBefore 0 = .ok (.iload_n 1, 1) := by decide +kernel
theorem kd_D_sentBefore_1 : decode b_D_sentBefore 1 = .ok (.ifCond .lt 17, 3) := by decide +kernel
theorem kd_D_sentBefore_4 : decode b_D_sentBefore 4 = .ok (.iload_n 1, 1) := by decide +kernel
theorem kd_D_sentBefore_5 : decode b_D_sentBefore 5 = .ok (.bipush 16, 2) := by decide +kernel
theorem kd_D_sentBefore_7 : decode b_D_sentBefore 7 = .ok (.if_icmp .ge 11, 3) := by decide +kernel
theorem kd_D_sentBefore_10 : decode b_D_sentBefore 10 = .ok (.iload_n 1, 1) := by decide +kernel
theorem kd_D_sentBefore_11 : decode b_D_sentBefore 11 = .ok (.aload_n 0, 1) := by decide +kernel
theorem kd_D_sentBefore_12 : decode b_D_sentBefore 12 = .ok (.getfield 50, 3) := by decide +kernel
theorem kd_D_sentBefore_15 : decode b_D_sentBefore 15 = .ok (.if_icmp .lt 5, 3) := by decide +kernel
theorem kd_D_sentBefore_18 : decode b_D_sentBefore 18 = .ok (.iconst (-1), 1) := by decide +kernel
theorem kd_D_sentBefore_19 : decode b_D_sentBefore 19 = .ok (.ireturn, 1) := by decide +kernel
theorem kd_D_sentBefore_20 : decode b_D_sentBefore 20 = .ok (.aload_n 0, 1) := by decide +kernel
theorem kd_D_sentBefore_21 : decode b_D_sentBefore 21 = .ok (.getfield 18, 3) := by decide +kernel
theorem kd_D_sentBefore_24 : decode b_D_sentBefore 24 = .ok (.aload_n 0, 1) := by decide +kernel
theorem kd_D_sentBefore_25 : decode b_D_sentBefore 25 = .ok (.getfield 50, 3) := by decide +kernel
theorem kd_D_sentBefore_28 : decode b_D_sentBefore 28 = .ok (.iconst 1, 1) := by decide +kernel
theorem kd_D_sentBefore_29 : decode b_D_sentBefore 29 = .ok (.isub, 1) := by decide +kernel
theorem kd_D_sentBefore_30 : decode b_D_sentBefore 30 = .ok (.iload_n 1, 1) := by decide +kernel
theorem kd_D_sentBefore_31 : decode b_D_sentBefore 31 = .ok (.isub, 1) := by decide +kernel
theorem kd_D_sentBefore_32 : decode b_D_sentBefore 32 = .ok (.bipush 16, 2) := by decide +kernel
theorem kd_D_sentBefore_34 : decode b_D_sentBefore 34 = .ok (.irem, 1) := by decide +kernel
theorem kd_D_sentBefore_35 : decode b_D_sentBefore 35 = .ok (.iaload, 1) := by decide +kernel
theorem kd_D_sentBefore_36 : decode b_D_sentBefore 36 = .ok (.ireturn, 1) := by decide +kernel
noncomputable def f_D_sentBefore (s0 : ZS) (x1 : Int32) : Option (Int32 × ZS) :=
  if x1 < 0 then
    some ((-1), s0)
  else
    if 16 ≤ x1 then
      some ((-1), s0)
    else
      if x1 < (s0 0 9) then
        zs_nm (zo_irem (((s0 0 9) - 1) - x1) 16) fun v1 =>
        if v1 < 0 ∨ 16 ≤ v1.toNatClampNeg then none else
        some (s0 4 v1.toNatClampNeg, s0)
      else
        some ((-1), s0)
theorem j_D_sentBefore {P : ZP} {E : ZE} {A : Nat → Prop} (X : ZX E (zcV P) A "FrameMachine$Devices" b_D_sentBefore 2 (some .int) 0 0) (s0 : ZS) (x1 : Int32) : ZJ E (zcV P) A 2 (zFi E (zcV P) A) 0 [(0, .ref (P.1 1)), (1, .int x1)] [] s0 (f_D_sentBefore s0 x1) := by
  unfold f_D_sentBefore
  refine zj_iload_n 1 1 X kd_D_sentBefore_0 rfl rfl rfl ?_
  refine zj_if_lt 18 4 X kd_D_sentBefore_1 rfl rfl (fun _ => ?_) (fun _ => ?_)
  · refine zj_iconst 19 ((-1)) X kd_D_sentBefore_18 ki_m1 rfl ?_
    exact zj_iret X kd_D_sentBefore_19
  · refine zj_iload_n 5 1 X kd_D_sentBefore_4 rfl rfl rfl ?_
    refine zj_bipush 7 16 X kd_D_sentBefore_5 kb_16 rfl ?_
    refine zj_icmp_ge 18 10 X kd_D_sentBefore_7 rfl rfl (fun _ => ?_) (fun _ => ?_)
    · refine zj_iconst 19 ((-1)) X kd_D_sentBefore_18 ki_m1 rfl ?_
      exact zj_iret X kd_D_sentBefore_19
    · refine zj_iload_n 11 1 X kd_D_sentBefore_10 rfl rfl rfl ?_
      refine zj_aload_n 12 0 X kd_D_sentBefore_11 rfl rfl rfl ?_
      refine gf_D_50 15 X kd_D_sentBefore_12 rfl ?_
      refine zj_icmp_lt 20 18 X kd_D_sentBefore_15 rfl rfl (fun _ => ?_) (fun _ => ?_)
      · refine zj_aload_n 21 0 X kd_D_sentBefore_20 rfl rfl rfl ?_
        refine gf_D_18 24 X kd_D_sentBefore_21 rfl ?_
        refine zj_aload_n 25 0 X kd_D_sentBefore_24 rfl rfl rfl ?_
        refine gf_D_50 28 X kd_D_sentBefore_25 rfl ?_
        refine zj_iconst 29 1 X kd_D_sentBefore_28 ki_1 rfl ?_
        refine zj_isub 30 X kd_D_sentBefore_29 rfl ?_
        refine zj_iload_n 31 1 X kd_D_sentBefore_30 rfl rfl rfl ?_
        refine zj_isub 32 X kd_D_sentBefore_31 rfl ?_
        refine zj_bipush 34 16 X kd_D_sentBefore_32 kb_16 rfl ?_
        refine zj_irem 35 X kd_D_sentBefore_34 (by decide) rfl ?_
        refine zj_nmi (fun v1 => ?_)
        refine zj_ng (fun hg => ?_)
        refine al_C_4 36 X kd_D_sentBefore_35 hg rfl ?_
        exact zj_iret X kd_D_sentBefore_36
      · refine zj_iconst 19 ((-1)) X kd_D_sentBefore_18 ki_m1 rfl ?_
        exact zj_iret X kd_D_sentBefore_19
theorem c_D_sentBefore {l : Launch} {P : ZP} (hV : ZVok (zcV P)) (s0 : ZS) (x1 : Int32) {z : Int32 × ZS} (h : f_D_sentBefore s0 x1 = some z) : zMi l y_D_sentBefore b_D_sentBefore 2 (some .int) 0 0 (zcV P) s0 [.ref (P.1 1), .int x1] z :=
  zMi_of (by decide +kernel) rfl rfl (Nat.le_of_ble_eq_true rfl) hV (fun _ X => j_D_sentBefore X s0 x1) h
theorem kc_F_124 : zCV "FrameMachine" 124 y_D_sentBefore b_D_sentBefore 2 (some .int) 1 := ⟨⟨kw_345, kw_346, kw_347, kw_2, kw_348⟩, by decide +kernel, by decide +kernel, by decide +kernel⟩
theorem mc_F_124 {ρ : Type} {E : ZE} {P : ZP} {A : Nat → Prop} {cc : ByteArray} {nL : Nat} {ret : Option FieldType} {fr lo : Nat} {F : ρ → State → Prop} {pc : Nat} {L : List (Nat × Value)} {rest : List Value} {σ : ZS} {x1 : Int32} {K : Int32 × ZS → Option ρ} (q : Nat) (X : ZX E (zcV P) A "FrameMachine" cc nL ret fr lo) (d : decode cc pc = .ok (.invokevirtual 124, 3)) (hfr : 0 + 1 ≤ fr) (hlo : 8 + (2 + 11) + 0 ≤ lo) (hr : (rest.map fun v => v.category).sum ≤ 8) (hq : pc + 3 = q) (kk : ∀ p : Int32 × ZS, ZJ E (zcV P) A nL F q L (.int p.1 :: rest) p.2 (K p)) : ZJ E (zcV P) A nL F pc L (.int x1 :: .ref (P.1 1) :: rest) σ ((f_D_sentBefore σ x1).bind K) :=
  zj_cVi q 1 1 (As := [.int x1]) (rest := rest) X kc_F_124 hfr hlo (fun p h => c_D_sentBefore (zx_v X) σ x1 h) rfl rfl rfl hr d hq kk
-- FrameMachine.gone(I)I
theorem kd_F_gone_0 : decode b_F_gone 0 = .ok (.aload_n 0, 1) := by decide +kernel
theorem kd_F_gone_1 : decode b_F_gone 1 = .ok (.getfield 12, 3) := by decide +kernel
theorem kd_F_gone_4 : decode b_F_gone 4 = .ok (.iload_n 1, 1) := by decide +kernel
theorem kd_F_gone_5 : decode b_F_gone 5 = .ok (.invokevirtual 124, 3) := by decide +kernel
theorem kd_F_gone_8 : decode b_F_gone 8 = .ok (.ireturn, 1) := by decide +kernel
noncomputable def f_F_gone (s0 : ZS) (x1 : Int32) : Option (Int32 × ZS) :=
  (f_D_sentBefore s0 x1).bind fun p1 =>
  some (p1.1, p1.2)
theorem j_F_gone {P : ZP} {E : ZE} {A : Nat → Prop} (X : ZX E (zcV P) A "FrameMachine" b_F_gone 2 (some .int) 1 21) (s0 : ZS) (x1 : Int32) : ZJ E (zcV P) A 2 (zFi E (zcV P) A) 0 [(0, .ref (P.1 0)), (1, .int x1)] [] s0 (f_F_gone s0 x1) := by
  unfold f_F_gone
  refine zj_aload_n 1 0 X kd_F_gone_0 rfl rfl rfl ?_
  refine gf_F_12 4 X kd_F_gone_1 rfl ?_
  refine zj_iload_n 5 1 X kd_F_gone_4 rfl rfl rfl ?_
  refine mc_F_124 8 X kd_F_gone_5 (Nat.le_of_ble_eq_true rfl) (Nat.le_of_ble_eq_true rfl) (Nat.le_of_ble_eq_true rfl) rfl (fun p1 => ?_)
  exact zj_iret X kd_F_gone_8
theorem c_F_gone {l : Launch} {P : ZP} (hV : ZVok (zcV P)) (s0 : ZS) (x1 : Int32) {z : Int32 × ZS} (h : f_F_gone s0 x1 = some z) : zMi l y_F_gone b_F_gone 2 (some .int) 1 21 (zcV P) s0 [.ref (P.1 0), .int x1] z :=
  zMi_of (by decide +kernel) rfl rfl (Nat.le_of_ble_eq_true rfl) hV (fun _ X => j_F_gone X s0 x1) h
-- FrameMachine.about(I)I
theorem kd_F_about_0 : decode b_F_about 0 = .ok (.iload_n 1, 1) := by decide +kernel
theorem kd_F_about_1 : decode b_F_about 1 = .ok (.tableswitch 109 0 5 #[39, 69, 77, 85, 93, 101], 39) := by decide +kernel
theorem kd_F_about_40 : decode b_F_about 40 = .ok (.aload_n 0, 1) := by decide +kernel
theorem kd_F_about_41 : decode b_F_about 41 = .ok (.getfield 42, 3) := by decide +kernel
theorem kd_F_about_44 : decode b_F_about 44 = .ok (.getfield 106, 3) := by decide +kernel
theorem kd_F_about_47 : decode b_F_about 47 = .ok (.ifCond .eq 7, 3) := by decide +kernel
theorem kd_F_about_50 : decode b_F_about 50 = .ok (.iconst 2, 1) := by decide +kernel
theorem kd_F_about_51 : decode b_F_about 51 = .ok (.goto 18, 3) := by decide +kernel
theorem kd_F_about_54 : decode b_F_about 54 = .ok (.aload_n 0, 1) := by decide +kernel
theorem kd_F_about_55 : decode b_F_about 55 = .ok (.getfield 51, 3) := by decide +kernel
theorem kd_F_about_58 : decode b_F_about 58 = .ok (.getfield 102, 3) := by decide +kernel
theorem kd_F_about_61 : decode b_F_about 61 = .ok (.ifCond .eq 7, 3) := by decide +kernel
theorem kd_F_about_64 : decode b_F_about 64 = .ok (.iconst 1, 1) := by decide +kernel
theorem kd_F_about_65 : decode b_F_about 65 = .ok (.goto 4, 3) := by decide +kernel
theorem kd_F_about_68 : decode b_F_about 68 = .ok (.iconst 0, 1) := by decide +kernel
theorem kd_F_about_69 : decode b_F_about 69 = .ok (.ireturn, 1) := by decide +kernel
theorem kd_F_about_70 : decode b_F_about 70 = .ok (.aload_n 0, 1) := by decide +kernel
theorem kd_F_about_71 : decode b_F_about 71 = .ok (.getfield 51, 3) := by decide +kernel
theorem kd_F_about_74 : decode b_F_about 74 = .ok (.getfield 127, 3) := by decide +kernel
theorem kd_F_about_77 : decode b_F_about 77 = .ok (.ireturn, 1) := by decide +kernel
theorem kd_F_about_78 : decode b_F_about 78 = .ok (.aload_n 0, 1) := by decide +kernel
theorem kd_F_about_79 : decode b_F_about 79 = .ok (.getfield 12, 3) := by decide +kernel
theorem kd_F_about_82 : decode b_F_about 82 = .ok (.getfield 130, 3) := by decide +kernel
theorem kd_F_about_85 : decode b_F_about 85 = .ok (.ireturn, 1) := by decide +kernel
theorem kd_F_about_86 : decode b_F_about 86 = .ok (.aload_n 0, 1) := by decide +kernel
theorem kd_F_about_87 : decode b_F_about 87 = .ok (.getfield 12, 3) := by decide +kernel
theorem kd_F_about_90 : decode b_F_about 90 = .ok (.getfield 133, 3) := by decide +kernel
theorem kd_F_about_93 : decode b_F_about 93 = .ok (.ireturn, 1) := by decide +kernel
theorem kd_F_about_94 : decode b_F_about 94 = .ok (.aload_n 0, 1) := by decide +kernel
theorem kd_F_about_95 : decode b_F_about 95 = .ok (.getfield 42, 3) := by decide +kernel
theorem kd_F_about_98 : decode b_F_about 98 = .ok (.getfield 136, 3) := by decide +kernel
theorem kd_F_about_101 : decode b_F_about 101 = .ok (.ireturn, 1) := by decide +kernel
theorem kd_F_about_102 : decode b_F_about 102 = .ok (.aload_n 0, 1) := by decide +kernel
theorem kd_F_about_103 : decode b_F_about 103 = .ok (.getfield 42, 3) := by decide +kernel
theorem kd_F_about_106 : decode b_F_about 106 = .ok (.getfield 139, 3) := by decide +kernel
theorem kd_F_about_109 : decode b_F_about 109 = .ok (.ireturn, 1) := by decide +kernel
theorem kd_F_about_110 : decode b_F_about 110 = .ok (.iconst (-1), 1) := by decide +kernel
theorem kd_F_about_111 : decode b_F_about 111 = .ok (.ireturn, 1) := by decide +kernel
noncomputable def f_F_about (s0 : ZS) (x1 : Int32) : Option (Int32 × ZS) :=
  if x1 = 0 then
    if (s0 0 18) = 0 then
      if (s0 0 20) = 0 then
        some (0, s0)
      else
        some (1, s0)
    else
      some (2, s0)
  else if x1 = 1 then
    some (s0 0 19, s0)
  else if x1 = 2 then
    some (s0 0 9, s0)
  else if x1 = 3 then
    some (s0 0 1, s0)
  else if x1 = 4 then
    some (s0 0 16, s0)
  else if x1 = 5 then
    some (s0 0 17, s0)
  else 
    some ((-1), s0)
theorem j_F_about {P : ZP} {E : ZE} {A : Nat → Prop} (X : ZX E (zcV P) A "FrameMachine" b_F_about 2 (some .int) 0 0) (s0 : ZS) (x1 : Int32) : ZJ E (zcV P) A 2 (zFi E (zcV P) A) 0 [(0, .ref (P.1 0)), (1, .int x1)] [] s0 (f_F_about s0 x1) := by
  unfold f_F_about
  refine zj_iload_n 1 1 X kd_F_about_0 rfl rfl rfl ?_
  refine zj_tcase 40 X kd_F_about_1 (by decide) (by decide) rfl rfl (fun _ => ?_) (fun h0 => ?_)
  · refine zj_aload_n 41 0 X kd_F_about_40 rfl rfl rfl ?_
    refine gf_F_42 44 X kd_F_about_41 rfl ?_
    refine gf_F_106 47 X kd_F_about_44 rfl ?_
    refine zj_if_eq 54 50 X kd_F_about_47 rfl rfl (fun _ => ?_) (fun _ => ?_)
    · refine zj_aload_n 55 0 X kd_F_about_54 rfl rfl rfl ?_
      refine gf_F_51 58 X kd_F_about_55 rfl ?_
      refine gf_F_102 61 X kd_F_about_58 rfl ?_
      refine zj_if_eq 68 64 X kd_F_about_61 rfl rfl (fun _ => ?_) (fun _ => ?_)
      · refine zj_iconst 69 0 X kd_F_about_68 ki_0 rfl ?_
        exact zj_iret X kd_F_about_69
      · refine zj_iconst 65 1 X kd_F_about_64 ki_1 rfl ?_
        refine zj_goto 69 X kd_F_about_65 rfl ?_
        exact zj_iret X kd_F_about_69
    · refine zj_iconst 51 2 X kd_F_about_50 ki_2 rfl ?_
      refine zj_goto 69 X kd_F_about_51 rfl ?_
      exact zj_iret X kd_F_about_69
  refine zj_tcase 70 X kd_F_about_1 (by decide) (by decide) rfl rfl (fun _ => ?_) (fun h1 => ?_)
  · refine zj_aload_n 71 0 X kd_F_about_70 rfl rfl rfl ?_
    refine gf_F_51 74 X kd_F_about_71 rfl ?_
    refine gf_F_127 77 X kd_F_about_74 rfl ?_
    exact zj_iret X kd_F_about_77
  refine zj_tcase 78 X kd_F_about_1 (by decide) (by decide) rfl rfl (fun _ => ?_) (fun h2 => ?_)
  · refine zj_aload_n 79 0 X kd_F_about_78 rfl rfl rfl ?_
    refine gf_F_12 82 X kd_F_about_79 rfl ?_
    refine gf_F_130 85 X kd_F_about_82 rfl ?_
    exact zj_iret X kd_F_about_85
  refine zj_tcase 86 X kd_F_about_1 (by decide) (by decide) rfl rfl (fun _ => ?_) (fun h3 => ?_)
  · refine zj_aload_n 87 0 X kd_F_about_86 rfl rfl rfl ?_
    refine gf_F_12 90 X kd_F_about_87 rfl ?_
    refine gf_F_133 93 X kd_F_about_90 rfl ?_
    exact zj_iret X kd_F_about_93
  refine zj_tcase 94 X kd_F_about_1 (by decide) (by decide) rfl rfl (fun _ => ?_) (fun h4 => ?_)
  · refine zj_aload_n 95 0 X kd_F_about_94 rfl rfl rfl ?_
    refine gf_F_42 98 X kd_F_about_95 rfl ?_
    refine gf_F_136 101 X kd_F_about_98 rfl ?_
    exact zj_iret X kd_F_about_101
  refine zj_tcase 102 X kd_F_about_1 (by decide) (by decide) rfl rfl (fun _ => ?_) (fun h5 => ?_)
  · refine zj_aload_n 103 0 X kd_F_about_102 rfl rfl rfl ?_
    refine gf_F_42 106 X kd_F_about_103 rfl ?_
    refine gf_F_139 109 X kd_F_about_106 rfl ?_
    exact zj_iret X kd_F_about_109
  refine zj_tdef 110 X kd_F_about_1 (by have h0 := lv_neT (a := 0) h0 rfl; have h1 := lv_neT (a := 1) h1 rfl; have h2 := lv_neT (a := 2) h2 rfl; have h3 := lv_neT (a := 3) h3 rfl; have h4 := lv_neT (a := 4) h4 rfl; have h5 := lv_neT (a := 5) h5 rfl; omega) rfl ?_
  refine zj_iconst 111 ((-1)) X kd_F_about_110 ki_m1 rfl ?_
  exact zj_iret X kd_F_about_111
theorem c_F_about {l : Launch} {P : ZP} (hV : ZVok (zcV P)) (s0 : ZS) (x1 : Int32) {z : Int32 × ZS} (h : f_F_about s0 x1 = some z) : zMi l y_F_about b_F_about 2 (some .int) 0 0 (zcV P) s0 [.ref (P.1 0), .int x1] z :=
  zMi_of (by decide +kernel) rfl rfl (Nat.le_of_ble_eq_true rfl) hV (fun _ X => j_F_about X s0 x1) h
-- FrameMachineModel.thrown()I
theorem kd_M_thrown_0 : decode b_M_thrown 0 = .ok (.aload_n 0, 1) := by decide +kernel
theorem kd_M_thrown_1 : decode b_M_thrown 1 = .ok (.getfield 38, 3) := by decide +kernel
theorem kd_M_thrown_4 : decode b_M_thrown 4 = .ok (.ireturn, 1) := by decide +kernel
noncomputable def f_M_thrown (s0 : ZS)  : Option (Int32 × ZS) :=
  some (s0 0 0, s0)
theorem j_M_thrown {P : ZP} {E : ZE} {A : Nat → Prop} (X : ZX E (zmV P) A "FrameMachineModel" b_M_thrown 1 (some .int) 0 0) (s0 : ZS)  : ZJ E (zmV P) A 1 (zFi E (zmV P) A) 0 [(0, .ref (P.1 0))] [] s0 (f_M_thrown s0) := by
  unfold f_M_thrown
  refine zj_aload_n 1 0 X kd_M_thrown_0 rfl rfl rfl ?_
  refine gf_M_38 4 X kd_M_thrown_1 rfl ?_
  exact zj_iret X kd_M_thrown_4
theorem c_M_thrown {l : Launch} {P : ZP} (hV : ZVok (zmV P)) (s0 : ZS)  {z : Int32 × ZS} (h : f_M_thrown s0  = some z) : zMi l y_M_thrown b_M_thrown 1 (some .int) 0 0 (zmV P) s0 [.ref (P.1 0)] z :=
  zMi_of (by decide +kernel) rfl rfl (Nat.le_of_ble_eq_true rfl) hV (fun _ X => j_M_thrown X s0 ) h
-- FrameMachineModel.bytes(I)I
theorem kd_M_bytes_0 : decode b_M_bytes 0 = .ok (.iconst 1, 1) := by decide +kernel
theorem kd_M_bytes_1 : decode b_M_bytes 1 = .ok (.iload_n 0, 1) := by decide +kernel
theorem kd_M_bytes_2 : decode b_M_bytes 2 = .ok (.ishl, 1) := by decide +kernel
theorem kd_M_bytes_3 : decode b_M_bytes 3 = .ok (.ireturn, 1) := by decide +kernel
noncomputable def f_M_bytes (s0 : ZS) (x1 : Int32) : Option (Int32 × ZS) :=
  some (zo_shl 1 x1, s0)
theorem j_M_bytes {P : ZP} {E : ZE} {A : Nat → Prop} (X : ZX E (zmV P) A "FrameMachineModel" b_M_bytes 1 (some .int) 0 0) (s0 : ZS) (x1 : Int32) : ZJ E (zmV P) A 1 (zFi E (zmV P) A) 0 [(0, .int x1)] [] s0 (f_M_bytes s0 x1) := by
  unfold f_M_bytes
  refine zj_iconst 1 1 X kd_M_bytes_0 ki_1 rfl ?_
  refine zj_iload_n 2 0 X kd_M_bytes_1 rfl rfl rfl ?_
  refine zj_ishl 3 X kd_M_bytes_2 rfl ?_
  exact zj_iret X kd_M_bytes_3
theorem c_M_bytes {l : Launch} {P : ZP} (hV : ZVok (zmV P)) (s0 : ZS) (x1 : Int32) {z : Int32 × ZS} (h : f_M_bytes s0 x1 = some z) : zMi l y_M_bytes b_M_bytes 1 (some .int) 0 0 (zmV P) s0 [.int x1] z :=
  zMi_of (by decide +kernel) rfl rfl (Nat.le_of_ble_eq_true rfl) hV (fun _ X => j_M_bytes X s0 x1) h
theorem kc_M_83 : zCS "FrameMachineModel" 83 y_M_bytes b_M_bytes 1 (some .int) 1 := ⟨⟨kw_916, kw_917, kw_11, kw_918⟩, by decide +kernel, by decide +kernel, by decide +kernel⟩
theorem mc_M_83 {ρ : Type} {E : ZE} {P : ZP} {A : Nat → Prop} {cc : ByteArray} {nL : Nat} {ret : Option FieldType} {fr lo : Nat} {F : ρ → State → Prop} {pc : Nat} {L : List (Nat × Value)} {rest : List Value} {σ : ZS} {x1 : Int32} {K : Int32 × ZS → Option ρ} (q : Nat) (X : ZX E (zmV P) A "FrameMachineModel" cc nL ret fr lo) (d : decode cc pc = .ok (.invokestatic 83, 3)) (hfr : 0 + 1 ≤ fr) (hlo : 8 + (1 + 11) + 0 ≤ lo) (hr : (rest.map fun v => v.category).sum ≤ 8) (hq : pc + 3 = q) (kk : ∀ p : Int32 × ZS, ZJ E (zmV P) A nL F q L (.int p.1 :: rest) p.2 (K p)) : ZJ E (zmV P) A nL F pc L (.int x1 :: rest) σ ((f_M_bytes σ x1).bind K) :=
  zj_cSi q (As := [.int x1]) (rest := rest) X kc_M_83 hfr hlo (fun p h => c_M_bytes (zx_v X) σ x1 h) rfl hr d hq kk
-- FrameMachineModel.bits(I)I
theorem kd_M_bits_0 : decode b_M_bits 0 = .ok (.bipush 8, 2) := by decide +kernel
theorem kd_M_bits_2 : decode b_M_bits 2 = .ok (.iload_n 0, 1) := by decide +kernel
theorem kd_M_bits_3 : decode b_M_bits 3 = .ok (.ishl, 1) := by decide +kernel
theorem kd_M_bits_4 : decode b_M_bits 4 = .ok (.ireturn, 1) := by decide +kernel
noncomputable def f_M_bits (s0 : ZS) (x1 : Int32) : Option (Int32 × ZS) :=
  some (zo_shl 8 x1, s0)
theorem j_M_bits {P : ZP} {E : ZE} {A : Nat → Prop} (X : ZX E (zmV P) A "FrameMachineModel" b_M_bits 1 (some .int) 0 0) (s0 : ZS) (x1 : Int32) : ZJ E (zmV P) A 1 (zFi E (zmV P) A) 0 [(0, .int x1)] [] s0 (f_M_bits s0 x1) := by
  unfold f_M_bits
  refine zj_bipush 2 8 X kd_M_bits_0 kb_8 rfl ?_
  refine zj_iload_n 3 0 X kd_M_bits_2 rfl rfl rfl ?_
  refine zj_ishl 4 X kd_M_bits_3 rfl ?_
  exact zj_iret X kd_M_bits_4
theorem c_M_bits {l : Launch} {P : ZP} (hV : ZVok (zmV P)) (s0 : ZS) (x1 : Int32) {z : Int32 × ZS} (h : f_M_bits s0 x1 = some z) : zMi l y_M_bits b_M_bits 1 (some .int) 0 0 (zmV P) s0 [.int x1] z :=
  zMi_of (by decide +kernel) rfl rfl (Nat.le_of_ble_eq_true rfl) hV (fun _ X => j_M_bits X s0 x1) h
theorem kc_M_144 : zCS "FrameMachineModel" 144 y_M_bits b_M_bits 1 (some .int) 1 := ⟨⟨kw_986, kw_987, kw_11, kw_988⟩, by decide +kernel, by decide +kernel, by decide +kernel⟩
theorem mc_M_144 {ρ : Type} {E : ZE} {P : ZP} {A : Nat → Prop} {cc : ByteArray} {nL : Nat} {ret : Option FieldType} {fr lo : Nat} {F : ρ → State → Prop} {pc : Nat} {L : List (Nat × Value)} {rest : List Value} {σ : ZS} {x1 : Int32} {K : Int32 × ZS → Option ρ} (q : Nat) (X : ZX E (zmV P) A "FrameMachineModel" cc nL ret fr lo) (d : decode cc pc = .ok (.invokestatic 144, 3)) (hfr : 0 + 1 ≤ fr) (hlo : 8 + (1 + 11) + 0 ≤ lo) (hr : (rest.map fun v => v.category).sum ≤ 8) (hq : pc + 3 = q) (kk : ∀ p : Int32 × ZS, ZJ E (zmV P) A nL F q L (.int p.1 :: rest) p.2 (K p)) : ZJ E (zmV P) A nL F pc L (.int x1 :: rest) σ ((f_M_bits σ x1).bind K) :=
  zj_cSi q (As := [.int x1]) (rest := rest) X kc_M_144 hfr hlo (fun p h => c_M_bits (zx_v X) σ x1 h) rfl hr d hq kk
-- FrameMachineModel.whole(I)J
theorem kd_M_whole_0 : decode b_M_whole 0 = .ok (.lconst 1, 1) := by decide +kernel
theorem kd_M_whole_1 : decode b_M_whole 1 = .ok (.bipush 8, 2) := by decide +kernel
theorem kd_M_whole_3 : decode b_M_whole 3 = .ok (.iload_n 0, 1) := by decide +kernel
theorem kd_M_whole_4 : decode b_M_whole 4 = .ok (.ishl, 1) := by decide +kernel
theorem kd_M_whole_5 : decode b_M_whole 5 = .ok (.lshl, 1) := by decide +kernel
theorem kd_M_whole_6 : decode b_M_whole 6 = .ok (.lconst 1, 1) := by decide +kernel
theorem kd_M_whole_7 : decode b_M_whole 7 = .ok (.lsub, 1) := by decide +kernel
theorem kd_M_whole_8 : decode b_M_whole 8 = .ok (.lreturn, 1) := by decide +kernel
noncomputable def f_M_whole (s0 : ZS) (x1 : Int32) : Option (Int64 × ZS) :=
  some ((zo_lshl 1 (zo_shl 8 x1)) - 1, s0)
theorem j_M_whole {P : ZP} {E : ZE} {A : Nat → Prop} (X : ZX E (zmV P) A "FrameMachineModel" b_M_whole 1 (some .long) 0 0) (s0 : ZS) (x1 : Int32) : ZJ E (zmV P) A 1 (zFl E (zmV P) A) 0 [(0, .int x1)] [] s0 (f_M_whole s0 x1) := by
  unfold f_M_whole
  refine zj_lconst 1 1 X kd_M_whole_0 rfl rfl ?_
  refine zj_bipush 3 8 X kd_M_whole_1 kb_8 rfl ?_
  refine zj_iload_n 4 0 X kd_M_whole_3 rfl rfl rfl ?_
  refine zj_ishl 5 X kd_M_whole_4 rfl ?_
  refine zj_lshl 6 X kd_M_whole_5 rfl ?_
  refine zj_lconst 7 1 X kd_M_whole_6 rfl rfl ?_
  refine zj_lsub 8 X kd_M_whole_7 rfl ?_
  exact zj_lret X kd_M_whole_8
theorem c_M_whole {l : Launch} {P : ZP} (hV : ZVok (zmV P)) (s0 : ZS) (x1 : Int32) {z : Int64 × ZS} (h : f_M_whole s0 x1 = some z) : zMl l y_M_whole b_M_whole 1 (some .long) 0 0 (zmV P) s0 [.int x1] z :=
  zMl_of (by decide +kernel) rfl rfl (Nat.le_of_ble_eq_true rfl) hV (fun _ X => j_M_whole X s0 x1) h
theorem kc_M_41 : zCS "FrameMachineModel" 41 y_M_whole b_M_whole 1 (some .long) 1 := ⟨⟨kw_983, kw_984, kw_11, kw_985⟩, by decide +kernel, by decide +kernel, by decide +kernel⟩
theorem mc_M_41 {ρ : Type} {E : ZE} {P : ZP} {A : Nat → Prop} {cc : ByteArray} {nL : Nat} {ret : Option FieldType} {fr lo : Nat} {F : ρ → State → Prop} {pc : Nat} {L : List (Nat × Value)} {rest : List Value} {σ : ZS} {x1 : Int32} {K : Int64 × ZS → Option ρ} (q : Nat) (X : ZX E (zmV P) A "FrameMachineModel" cc nL ret fr lo) (d : decode cc pc = .ok (.invokestatic 41, 3)) (hfr : 0 + 1 ≤ fr) (hlo : 8 + (1 + 11) + 0 ≤ lo) (hr : (rest.map fun v => v.category).sum ≤ 8) (hq : pc + 3 = q) (kk : ∀ p : Int64 × ZS, ZJ E (zmV P) A nL F q L (.long p.1 :: rest) p.2 (K p)) : ZJ E (zmV P) A nL F pc L (.int x1 :: rest) σ ((f_M_whole σ x1).bind K) :=
  zj_cSl q (As := [.int x1]) (rest := rest) X kc_M_41 hfr hlo (fun p h => c_M_whole (zx_v X) σ x1 h) rfl hr d hq kk
-- FrameMachineModel.cut(JI)J
theorem kd_M_cut_0 : decode b_M_cut 0 = .ok (.lload_n 0, 1) := by decide +kernel
theorem kd_M_cut_1 : decode b_M_cut 1 = .ok (.iload_n 2, 1) := by decide +kernel
theorem kd_M_cut_2 : decode b_M_cut 2 = .ok (.invokestatic 41, 3) := by decide +kernel
theorem kd_M_cut_5 : decode b_M_cut 5 = .ok (.land, 1) := by decide +kernel
theorem kd_M_cut_6 : decode b_M_cut 6 = .ok (.lreturn, 1) := by decide +kernel
noncomputable def f_M_cut (s0 : ZS) (x1 : Int64) (x2 : Int32) : Option (Int64 × ZS) :=
  (f_M_whole s0 x2).bind fun p1 =>
  some (x1 &&& p1.1, p1.2)
theorem j_M_cut {P : ZP} {E : ZE} {A : Nat → Prop} (X : ZX E (zmV P) A "FrameMachineModel" b_M_cut 3 (some .long) 1 20) (s0 : ZS) (x1 : Int64) (x2 : Int32) : ZJ E (zmV P) A 3 (zFl E (zmV P) A) 0 [(0, .long x1), (2, .int x2)] [] s0 (f_M_cut s0 x1 x2) := by
  unfold f_M_cut
  refine zj_lload_n 1 0 X kd_M_cut_0 rfl rfl rfl ?_
  refine zj_iload_n 2 1 X kd_M_cut_1 rfl rfl rfl ?_
  refine mc_M_41 5 X kd_M_cut_2 (Nat.le_of_ble_eq_true rfl) (Nat.le_of_ble_eq_true rfl) (Nat.le_of_ble_eq_true rfl) rfl (fun p1 => ?_)
  refine zj_land 6 X kd_M_cut_5 rfl ?_
  exact zj_lret X kd_M_cut_6
theorem c_M_cut {l : Launch} {P : ZP} (hV : ZVok (zmV P)) (s0 : ZS) (x1 : Int64) (x2 : Int32) {z : Int64 × ZS} (h : f_M_cut s0 x1 x2 = some z) : zMl l y_M_cut b_M_cut 3 (some .long) 1 20 (zmV P) s0 [.long x1, .int x2] z :=
  zMl_of (by decide +kernel) rfl rfl (Nat.le_of_ble_eq_true rfl) hV (fun _ X => j_M_cut X s0 x1 x2) h
theorem kc_M_161 : zCS "FrameMachineModel" 161 y_M_cut b_M_cut 3 (some .long) 2 := ⟨⟨kw_980, kw_981, kw_11, kw_982⟩, by decide +kernel, by decide +kernel, by decide +kernel⟩
theorem mc_M_161 {ρ : Type} {E : ZE} {P : ZP} {A : Nat → Prop} {cc : ByteArray} {nL : Nat} {ret : Option FieldType} {fr lo : Nat} {F : ρ → State → Prop} {pc : Nat} {L : List (Nat × Value)} {rest : List Value} {σ : ZS} {x1 : Int64} {x2 : Int32} {K : Int64 × ZS → Option ρ} (q : Nat) (X : ZX E (zmV P) A "FrameMachineModel" cc nL ret fr lo) (d : decode cc pc = .ok (.invokestatic 161, 3)) (hfr : 1 + 1 ≤ fr) (hlo : 8 + (3 + 11) + 20 ≤ lo) (hr : (rest.map fun v => v.category).sum ≤ 8) (hq : pc + 3 = q) (kk : ∀ p : Int64 × ZS, ZJ E (zmV P) A nL F q L (.long p.1 :: rest) p.2 (K p)) : ZJ E (zmV P) A nL F pc L (.int x2 :: .long x1 :: rest) σ ((f_M_cut σ x1 x2).bind K) :=
  zj_cSl q (As := [.long x1, .int x2]) (rest := rest) X kc_M_161 hfr hlo (fun p h => c_M_cut (zx_v X) σ x1 x2 h) rfl hr d hq kk
-- FrameMachineModel.signed(JI)I
theorem kd_M_signed_0 : decode b_M_signed 0 = .ok (.iload_n 2, 1) := by decide +kernel
theorem kd_M_signed_1 : decode b_M_signed 1 = .ok (.ifCond .ne 14, 3) := by decide +kernel
theorem kd_M_signed_4 : decode b_M_signed 4 = .ok (.lload_n 0, 1) := by decide +kernel
theorem kd_M_signed_5 : decode b_M_signed 5 = .ok (.bipush 56, 2) := by decide +kernel
theorem kd_M_signed_7 : decode b_M_signed 7 = .ok (.lshl, 1) := by decide +kernel
theorem kd_M_signed_8 : decode b_M_signed 8 = .ok (.bipush 56, 2) := by decide +kernel
theorem kd_M_signed_10 : decode b_M_signed 10 = .ok (.lshr, 1) := by decide +kernel
theorem kd_M_signed_11 : decode b_M_signed 11 = .ok (.l2i, 1) := by decide +kernel
theorem kd_M_signed_12 : decode b_M_signed 12 = .ok (.goto 21, 3) := by decide +kernel
theorem kd_M_signed_15 : decode b_M_signed 15 = .ok (.iload_n 2, 1) := by decide +kernel
theorem kd_M_signed_16 : decode b_M_signed 16 = .ok (.iconst 1, 1) := by decide +kernel
theorem kd_M_signed_17 : decode b_M_signed 17 = .ok (.if_icmp .ne 14, 3) := by decide +kernel
theorem kd_M_signed_20 : decode b_M_signed 20 = .ok (.lload_n 0, 1) := by decide +kernel
theorem kd_M_signed_21 : decode b_M_signed 21 = .ok (.bipush 48, 2) := by decide +kernel
theorem kd_M_signed_23 : decode b_M_signed 23 = .ok (.lshl, 1) := by decide +kernel
theorem kd_M_signed_24 : decode b_M_signed 24 = .ok (.bipush 48, 2) := by decide +kernel
theorem kd_M_signed_26 : decode b_M_signed 26 = .ok (.lshr, 1) := by decide +kernel
theorem kd_M_signed_27 : decode b_M_signed 27 = .ok (.l2i, 1) := by decide +kernel
theorem kd_M_signed_28 : decode b_M_signed 28 = .ok (.goto 5, 3) := by decide +kernel
theorem kd_M_signed_31 : decode b_M_signed 31 = .ok (.lload_n 0, 1) := by decide +kernel
theorem kd_M_signed_32 : decode b_M_signed 32 = .ok (.l2i, 1) := by decide +kernel
theorem kd_M_signed_33 : decode b_M_signed 33 = .ok (.ireturn, 1) := by decide +kernel
noncomputable def f_M_signed (s0 : ZS) (x1 : Int64) (x2 : Int32) : Option (Int32 × ZS) :=
  if x2 = 0 then
    some ((zo_lshr (zo_lshl x1 56) 56).toInt32, s0)
  else
    if x2 = 1 then
      some ((zo_lshr (zo_lshl x1 48) 48).toInt32, s0)
    else
      some (x1.toInt32, s0)
theorem j_M_signed {P : ZP} {E : ZE} {A : Nat → Prop} (X : ZX E (zmV P) A "FrameMachineModel" b_M_signed 3 (some .int) 0 0) (s0 : ZS) (x1 : Int64) (x2 : Int32) : ZJ E (zmV P) A 3 (zFi E (zmV P) A) 0 [(0, .long x1), (2, .int x2)] [] s0 (f_M_signed s0 x1 x2) := by
  unfold f_M_signed
  refine zj_iload_n 1 1 X kd_M_signed_0 rfl rfl rfl ?_
  refine zj_if_ne 15 4 X kd_M_signed_1 rfl rfl (fun _ => ?_) (fun _ => ?_)
  · refine zj_lload_n 5 0 X kd_M_signed_4 rfl rfl rfl ?_
    refine zj_bipush 7 56 X kd_M_signed_5 kb_56 rfl ?_
    refine zj_lshl 8 X kd_M_signed_7 rfl ?_
    refine zj_bipush 10 56 X kd_M_signed_8 kb_56 rfl ?_
    refine zj_lshr 11 X kd_M_signed_10 rfl ?_
    refine zj_l2i 12 X kd_M_signed_11 rfl ?_
    refine zj_goto 33 X kd_M_signed_12 rfl ?_
    exact zj_iret X kd_M_signed_33
  · refine zj_iload_n 16 1 X kd_M_signed_15 rfl rfl rfl ?_
    refine zj_iconst 17 1 X kd_M_signed_16 ki_1 rfl ?_
    refine zj_icmp_ne 31 20 X kd_M_signed_17 rfl rfl (fun _ => ?_) (fun _ => ?_)
    · refine zj_lload_n 21 0 X kd_M_signed_20 rfl rfl rfl ?_
      refine zj_bipush 23 48 X kd_M_signed_21 kb_48 rfl ?_
      refine zj_lshl 24 X kd_M_signed_23 rfl ?_
      refine zj_bipush 26 48 X kd_M_signed_24 kb_48 rfl ?_
      refine zj_lshr 27 X kd_M_signed_26 rfl ?_
      refine zj_l2i 28 X kd_M_signed_27 rfl ?_
      refine zj_goto 33 X kd_M_signed_28 rfl ?_
      exact zj_iret X kd_M_signed_33
    · refine zj_lload_n 32 0 X kd_M_signed_31 rfl rfl rfl ?_
      refine zj_l2i 33 X kd_M_signed_32 rfl ?_
      exact zj_iret X kd_M_signed_33
theorem c_M_signed {l : Launch} {P : ZP} (hV : ZVok (zmV P)) (s0 : ZS) (x1 : Int64) (x2 : Int32) {z : Int32 × ZS} (h : f_M_signed s0 x1 x2 = some z) : zMi l y_M_signed b_M_signed 3 (some .int) 0 0 (zmV P) s0 [.long x1, .int x2] z :=
  zMi_of (by decide +kernel) rfl rfl (Nat.le_of_ble_eq_true rfl) hV (fun _ X => j_M_signed X s0 x1 x2) h
theorem kc_M_154 : zCS "FrameMachineModel" 154 y_M_signed b_M_signed 3 (some .int) 2 := ⟨⟨kw_1006, kw_1007, kw_11, kw_1008⟩, by decide +kernel, by decide +kernel, by decide +kernel⟩
theorem mc_M_154 {ρ : Type} {E : ZE} {P : ZP} {A : Nat → Prop} {cc : ByteArray} {nL : Nat} {ret : Option FieldType} {fr lo : Nat} {F : ρ → State → Prop} {pc : Nat} {L : List (Nat × Value)} {rest : List Value} {σ : ZS} {x1 : Int64} {x2 : Int32} {K : Int32 × ZS → Option ρ} (q : Nat) (X : ZX E (zmV P) A "FrameMachineModel" cc nL ret fr lo) (d : decode cc pc = .ok (.invokestatic 154, 3)) (hfr : 0 + 1 ≤ fr) (hlo : 8 + (3 + 11) + 0 ≤ lo) (hr : (rest.map fun v => v.category).sum ≤ 8) (hq : pc + 3 = q) (kk : ∀ p : Int32 × ZS, ZJ E (zmV P) A nL F q L (.int p.1 :: rest) p.2 (K p)) : ZJ E (zmV P) A nL F pc L (.int x2 :: .long x1 :: rest) σ ((f_M_signed σ x1 x2).bind K) :=
  zj_cSi q (As := [.long x1, .int x2]) (rest := rest) X kc_M_154 hfr hlo (fun p h => c_M_signed (zx_v X) σ x1 x2 h) rfl hr d hq kk
-- FrameMachineModel.device(I)I
theorem kd_M_device_0 : decode b_M_device 0 = .ok (.iload_n 1, 1) := by decide +kernel
theorem kd_M_device_1 : decode b_M_device 1 = .ok (.ifCond .ne 12, 3) := by decide +kernel
theorem kd_M_device_4 : decode b_M_device 4 = .ok (.aload_n 0, 1) := by decide +kernel
theorem kd_M_device_5 : decode b_M_device 5 = .ok (.getfield 26, 3) := by decide +kernel
theorem kd_M_device_8 : decode b_M_device 8 = .ok (.sipush 255, 3) := by decide +kernel
theorem kd_M_device_11 : decode b_M_device 11 = .ok (.iand, 1) := by decide +kernel
theorem kd_M_device_12 : decode b_M_device 12 = .ok (.ireturn, 1) := by decide +kernel
theorem kd_M_device_13 : decode b_M_device 13 = .ok (.iload_n 1, 1) := by decide +kernel
theorem kd_M_device_14 : decode b_M_device 14 = .ok (.iconst 1, 1) := by decide +kernel
theorem kd_M_device_15 : decode b_M_device 15 = .ok (.if_icmp .ne 29, 3) := by decide +kernel
theorem kd_M_device_18 : decode b_M_device 18 = .ok (.aload_n 0, 1) := by decide +kernel
theorem kd_M_device_19 : decode b_M_device 19 = .ok (.getfield 45, 3) := by decide +kernel
theorem kd_M_device_22 : decode b_M_device 22 = .ok (.ifCond .eq 7, 3) := by decide +kernel
theorem kd_M_device_25 : decode b_M_device 25 = .ok (.iconst 1, 1) := by decide +kernel
theorem kd_M_device_26 : decode b_M_device 26 = .ok (.goto 4, 3) := by decide +kernel
theorem kd_M_device_29 : decode b_M_device 29 = .ok (.iconst 0, 1) := by decide +kernel
theorem kd_M_device_30 : decode b_M_device 30 = .ok (.aload_n 0, 1) := by decide +kernel
theorem kd_M_device_31 : decode b_M_device 31 = .ok (.getfield 49, 3) := by decide +kernel
theorem kd_M_device_34 : decode b_M_device 34 = .ok (.ifCond .eq 7, 3) := by decide +kernel
theorem kd_M_device_37 : decode b_M_device 37 = .ok (.iconst 2, 1) := by decide +kernel
theorem kd_M_device_38 : decode b_M_device 38 = .ok (.goto 4, 3) := by decide +kernel
theorem kd_M_device_41 : decode b_M_device 41 = .ok (.iconst 0, 1) := by decide +kernel
theorem kd_M_device_42 : decode b_M_device 42 = .ok (.iadd, 1) := by decide +kernel
theorem kd_M_device_43 : decode b_M_device 43 = .ok (.ireturn, 1) := by decide +kernel
theorem kd_M_device_44 : decode b_M_device 44 = .ok (.iload_n 1, 1) := by decide +kernel
theorem kd_M_device_45 : decode b_M_device 45 = .ok (.iconst 2, 1) := by decide +kernel
theorem kd_M_device_46 : decode b_M_device 46 = .ok (.if_icmp .ne 27, 3) := by decide +kernel
theorem kd_M_device_49 : decode b_M_device 49 = .ok (.aload_n 0, 1) := by decide +kernel
theorem kd_M_device_50 : decode b_M_device 50 = .ok (.getfield 29, 3) := by decide +kernel
theorem kd_M_device_53 : decode b_M_device 53 = .ok (.iconst (-1), 1) := by decide +kernel
theorem kd_M_device_54 : decode b_M_device 54 = .ok (.if_icmp .ne 7, 3) := by decide +kernel
theorem kd_M_device_57 : decode b_M_device 57 = .ok (.iconst 0, 1) := by decide +kernel
theorem kd_M_device_58 : decode b_M_device 58 = .ok (.goto 7, 3) := by decide +kernel
theorem kd_M_device_61 : decode b_M_device 61 = .ok (.aload_n 0, 1) := by decide +kernel
theorem kd_M_device_62 : decode b_M_device 62 = .ok (.getfield 29, 3) := by decide +kernel
theorem kd_M_device_65 : decode b_M_device 65 = .ok (.istore_n 2, 1) := by decide +kernel
theorem kd_M_device_66 : decode b_M_device 66 = .ok (.aload_n 0, 1) := by decide +kernel
theorem kd_M_device_67 : decode b_M_device 67 = .ok (.iconst (-1), 1) := by decide +kernel
theorem kd_M_device_68 : decode b_M_device 68 = .ok (.putfield 29, 3) := by decide +kernel
theorem kd_M_device_71 : decode b_M_device 71 = .ok (.iload_n 2, 1) := by decide +kernel
theorem kd_M_device_72 : decode b_M_device 72 = .ok (.ireturn, 1) := by decide +kernel
theorem kd_M_device_73 : decode b_M_device 73 = .ok (.aload_n 0, 1) := by decide +kernel
theorem kd_M_device_74 : decode b_M_device 74 = .ok (.getfield 29, 3) := by decide +kernel
theorem kd_M_device_77 : decode b_M_device 77 = .ok (.iconst (-1), 1) := by decide +kernel
theorem kd_M_device_78 : decode b_M_device 78 = .ok (.if_icmp .eq 7, 3) := by decide +kernel
theorem kd_M_device_81 : decode b_M_device 81 = .ok (.iconst 1, 1) := by decide +kernel
theorem kd_M_device_82 : decode b_M_device 82 = .ok (.goto 4, 3) := by decide +kernel
theorem kd_M_device_85 : decode b_M_device 85 = .ok (.iconst 0, 1) := by decide +kernel
theorem kd_M_device_86 : decode b_M_device 86 = .ok (.aload_n 0, 1) := by decide +kernel
theorem kd_M_device_87 : decode b_M_device 87 = .ok (.getfield 52, 3) := by decide +kernel
theorem kd_M_device_90 : decode b_M_device 90 = .ok (.ifCond .eq 7, 3) := by decide +kernel
theorem kd_M_device_93 : decode b_M_device 93 = .ok (.iconst 2, 1) := by decide +kernel
theorem kd_M_device_94 : decode b_M_device 94 = .ok (.goto 4, 3) := by decide +kernel
theorem kd_M_device_97 : decode b_M_device 97 = .ok (.iconst 0, 1) := by decide +kernel
theorem kd_M_device_98 : decode b_M_device 98 = .ok (.iadd, 1) := by decide +kernel
theorem kd_M_device_99 : decode b_M_device 99 = .ok (.aload_n 0, 1) := by decide +kernel
theorem kd_M_device_100 : decode b_M_device 100 = .ok (.getfield 32, 3) := by decide +kernel
theorem kd_M_device_103 : decode b_M_device 103 = .ok (.iconst (-1), 1) := by decide +kernel
theorem kd_M_device_104 : decode b_M_device 104 = .ok (.if_icmp .ne 7, 3) := by decide +kernel
theorem kd_M_device_107 : decode b_M_device 107 = .ok (.iconst 4, 1) := by decide +kernel
theorem kd_M_device_108 : decode b_M_device 108 = .ok (.goto 4, 3) := by decide +kernel
theorem kd_M_device_111 : decode b_M_device 111 = .ok (.iconst 0, 1) := by decide +kernel
theorem kd_M_device_112 : decode b_M_device 112 = .ok (.iadd, 1) := by decide +kernel
theorem kd_M_device_113 : decode b_M_device 113 = .ok (.ireturn, 1) := by decide +kernel
noncomputable def f_M_device_112 (s0 : ZS) (t0 : Int32) (t1 : Int32) : Option (Int32 × ZS) :=
  some (t1 + t0, s0)
noncomputable def f_M_device_98 (s0 : ZS) (t0 : Int32) (t1 : Int32) : Option (Int32 × ZS) :=
  if (s0 0 28) = ((-1)) then
    f_M_device_112 s0 4 ((t1 + t0))
  else
    f_M_device_112 s0 0 ((t1 + t0))
noncomputable def f_M_device_86 (s0 : ZS) (t0 : Int32) : Option (Int32 × ZS) :=
  if (s0 0 27) = 0 then
    f_M_device_98 s0 0 t0
  else
    f_M_device_98 s0 2 t0
noncomputable def f_M_device_65 (s0 : ZS) (t0 : Int32) : Option (Int32 × ZS) :=
  zs_nm (zs_up s0 0 26 ((-1))) fun s1 =>
  some (t0, s1)
noncomputable def f_M_device_42 (s0 : ZS) (t0 : Int32) (t1 : Int32) : Option (Int32 × ZS) :=
  some (t1 + t0, s0)
noncomputable def f_M_device_30 (s0 : ZS) (t0 : Int32) : Option (Int32 × ZS) :=
  if (s0 0 25) = 0 then
    f_M_device_42 s0 0 t0
  else
    f_M_device_42 s0 2 t0
noncomputable def f_M_device (s0 : ZS) (x1 : Int32) : Option (Int32 × ZS) :=
  if x1 = 0 then
    some ((s0 0 22) &&& 255, s0)
  else
    if x1 = 1 then
      if (s0 0 24) = 0 then
        f_M_device_30 s0 0
      else
        f_M_device_30 s0 1
    else
      if x1 = 2 then
        if (s0 0 26) = ((-1)) then
          f_M_device_65 s0 0
        else
          f_M_device_65 s0 ((s0 0 26))
      else
        if (s0 0 26) = ((-1)) then
          f_M_device_86 s0 0
        else
          f_M_device_86 s0 1
theorem j_M_device_112 {P : ZP} {E : ZE} {A : Nat → Prop} (X : ZX E (zmV P) A "FrameMachineModel" b_M_device 3 (some .int) 0 0) (s0 : ZS) (t0 : Int32) (t1 : Int32) : ZJ E (zmV P) A 3 (zFi E (zmV P) A) 112 [] [.int t0, .int t1] s0 (f_M_device_112 s0 t0 t1) := by
  unfold f_M_device_112
  refine zj_iadd 113 X kd_M_device_112 rfl ?_
  exact zj_iret X kd_M_device_113
theorem j_M_device_98 {P : ZP} {E : ZE} {A : Nat → Prop} (X : ZX E (zmV P) A "FrameMachineModel" b_M_device 3 (some .int) 0 0) (s0 : ZS) (t0 : Int32) (t1 : Int32) : ZJ E (zmV P) A 3 (zFi E (zmV P) A) 98 [(0, .ref (P.1 0))] [.int t0, .int t1] s0 (f_M_device_98 s0 t0 t1) := by
  unfold f_M_device_98
  refine zj_iadd 99 X kd_M_device_98 rfl ?_
  refine zj_aload_n 100 0 X kd_M_device_99 rfl rfl rfl ?_
  refine gf_M_32 103 X kd_M_device_100 rfl ?_
  refine zj_iconst 104 ((-1)) X kd_M_device_103 ki_m1 rfl ?_
  refine zj_icmp_ne 111 107 X kd_M_device_104 rfl rfl (fun _ => ?_) (fun _ => ?_)
  · refine zj_iconst 108 4 X kd_M_device_107 ki_4 rfl ?_
    refine zj_goto 112 X kd_M_device_108 rfl ?_
    refine zj_loc [] (L2 := []) rfl ?_
    exact j_M_device_112 X s0 4 ((t1 + t0))
  · refine zj_iconst 112 0 X kd_M_device_111 ki_0 rfl ?_
    refine zj_loc [] (L2 := []) rfl ?_
    exact j_M_device_112 X s0 0 ((t1 + t0))
theorem j_M_device_86 {P : ZP} {E : ZE} {A : Nat → Prop} (X : ZX E (zmV P) A "FrameMachineModel" b_M_device 3 (some .int) 0 0) (s0 : ZS) (t0 : Int32) : ZJ E (zmV P) A 3 (zFi E (zmV P) A) 86 [(0, .ref (P.1 0))] [.int t0] s0 (f_M_device_86 s0 t0) := by
  unfold f_M_device_86
  refine zj_aload_n 87 0 X kd_M_device_86 rfl rfl rfl ?_
  refine gf_M_52 90 X kd_M_device_87 rfl ?_
  refine zj_if_eq 97 93 X kd_M_device_90 rfl rfl (fun _ => ?_) (fun _ => ?_)
  · refine zj_iconst 98 0 X kd_M_device_97 ki_0 rfl ?_
    exact j_M_device_98 X s0 0 t0
  · refine zj_iconst 94 2 X kd_M_device_93 ki_2 rfl ?_
    refine zj_goto 98 X kd_M_device_94 rfl ?_
    exact j_M_device_98 X s0 2 t0
theorem j_M_device_65 {P : ZP} {E : ZE} {A : Nat → Prop} (X : ZX E (zmV P) A "FrameMachineModel" b_M_device 3 (some .int) 0 0) (s0 : ZS) (t0 : Int32) : ZJ E (zmV P) A 3 (zFi E (zmV P) A) 65 [(0, .ref (P.1 0))] [.int t0] s0 (f_M_device_65 s0 t0) := by
  unfold f_M_device_65
  refine zj_istore_n 66 [(2, .int t0), (0, .ref (P.1 0))] X kd_M_device_65 rfl (Nat.le_of_ble_eq_true rfl) rfl rfl ?_
  refine zj_aload_n 67 1 X kd_M_device_66 rfl rfl rfl ?_
  refine zj_iconst 68 ((-1)) X kd_M_device_67 ki_m1 rfl ?_
  refine pf_M_29 71 X kd_M_device_68 rfl ?_
  refine zj_nms (fun s1 => ?_)
  refine zj_iload_n 72 0 X kd_M_device_71 rfl rfl rfl ?_
  exact zj_iret X kd_M_device_72
theorem j_M_device_42 {P : ZP} {E : ZE} {A : Nat → Prop} (X : ZX E (zmV P) A "FrameMachineModel" b_M_device 3 (some .int) 0 0) (s0 : ZS) (t0 : Int32) (t1 : Int32) : ZJ E (zmV P) A 3 (zFi E (zmV P) A) 42 [] [.int t0, .int t1] s0 (f_M_device_42 s0 t0 t1) := by
  unfold f_M_device_42
  refine zj_iadd 43 X kd_M_device_42 rfl ?_
  exact zj_iret X kd_M_device_43
theorem j_M_device_30 {P : ZP} {E : ZE} {A : Nat → Prop} (X : ZX E (zmV P) A "FrameMachineModel" b_M_device 3 (some .int) 0 0) (s0 : ZS) (t0 : Int32) : ZJ E (zmV P) A 3 (zFi E (zmV P) A) 30 [(0, .ref (P.1 0))] [.int t0] s0 (f_M_device_30 s0 t0) := by
  unfold f_M_device_30
  refine zj_aload_n 31 0 X kd_M_device_30 rfl rfl rfl ?_
  refine gf_M_49 34 X kd_M_device_31 rfl ?_
  refine zj_if_eq 41 37 X kd_M_device_34 rfl rfl (fun _ => ?_) (fun _ => ?_)
  · refine zj_iconst 42 0 X kd_M_device_41 ki_0 rfl ?_
    refine zj_loc [] (L2 := []) rfl ?_
    exact j_M_device_42 X s0 0 t0
  · refine zj_iconst 38 2 X kd_M_device_37 ki_2 rfl ?_
    refine zj_goto 42 X kd_M_device_38 rfl ?_
    refine zj_loc [] (L2 := []) rfl ?_
    exact j_M_device_42 X s0 2 t0
theorem j_M_device {P : ZP} {E : ZE} {A : Nat → Prop} (X : ZX E (zmV P) A "FrameMachineModel" b_M_device 3 (some .int) 0 0) (s0 : ZS) (x1 : Int32) : ZJ E (zmV P) A 3 (zFi E (zmV P) A) 0 [(0, .ref (P.1 0)), (1, .int x1)] [] s0 (f_M_device s0 x1) := by
  unfold f_M_device
  refine zj_iload_n 1 1 X kd_M_device_0 rfl rfl rfl ?_
  refine zj_if_ne 13 4 X kd_M_device_1 rfl rfl (fun _ => ?_) (fun _ => ?_)
  · refine zj_aload_n 5 0 X kd_M_device_4 rfl rfl rfl ?_
    refine gf_M_26 8 X kd_M_device_5 rfl ?_
    refine zj_sipush 11 255 X kd_M_device_8 ks_255 rfl ?_
    refine zj_iand 12 X kd_M_device_11 rfl ?_
    exact zj_iret X kd_M_device_12
  · refine zj_iload_n 14 1 X kd_M_device_13 rfl rfl rfl ?_
    refine zj_iconst 15 1 X kd_M_device_14 ki_1 rfl ?_
    refine zj_icmp_ne 44 18 X kd_M_device_15 rfl rfl (fun _ => ?_) (fun _ => ?_)
    · refine zj_aload_n 19 0 X kd_M_device_18 rfl rfl rfl ?_
      refine gf_M_45 22 X kd_M_device_19 rfl ?_
      refine zj_if_eq 29 25 X kd_M_device_22 rfl rfl (fun _ => ?_) (fun _ => ?_)
      · refine zj_iconst 30 0 X kd_M_device_29 ki_0 rfl ?_
        refine zj_loc [0] (L2 := [(0, .ref (P.1 0))]) rfl ?_
        exact j_M_device_30 X s0 0
      · refine zj_iconst 26 1 X kd_M_device_25 ki_1 rfl ?_
        refine zj_goto 30 X kd_M_device_26 rfl ?_
        refine zj_loc [0] (L2 := [(0, .ref (P.1 0))]) rfl ?_
        exact j_M_device_30 X s0 1
    · refine zj_iload_n 45 1 X kd_M_device_44 rfl rfl rfl ?_
      refine zj_iconst 46 2 X kd_M_device_45 ki_2 rfl ?_
      refine zj_icmp_ne 73 49 X kd_M_device_46 rfl rfl (fun _ => ?_) (fun _ => ?_)
      · refine zj_aload_n 50 0 X kd_M_device_49 rfl rfl rfl ?_
        refine gf_M_29 53 X kd_M_device_50 rfl ?_
        refine zj_iconst 54 ((-1)) X kd_M_device_53 ki_m1 rfl ?_
        refine zj_icmp_ne 61 57 X kd_M_device_54 rfl rfl (fun _ => ?_) (fun _ => ?_)
        · refine zj_iconst 58 0 X kd_M_device_57 ki_0 rfl ?_
          refine zj_goto 65 X kd_M_device_58 rfl ?_
          refine zj_loc [0] (L2 := [(0, .ref (P.1 0))]) rfl ?_
          exact j_M_device_65 X s0 0
        · refine zj_aload_n 62 0 X kd_M_device_61 rfl rfl rfl ?_
          refine gf_M_29 65 X kd_M_device_62 rfl ?_
          refine zj_loc [0] (L2 := [(0, .ref (P.1 0))]) rfl ?_
          exact j_M_device_65 X s0 ((s0 0 26))
      · refine zj_aload_n 74 0 X kd_M_device_73 rfl rfl rfl ?_
        refine gf_M_29 77 X kd_M_device_74 rfl ?_
        refine zj_iconst 78 ((-1)) X kd_M_device_77 ki_m1 rfl ?_
        refine zj_icmp_eq 85 81 X kd_M_device_78 rfl rfl (fun _ => ?_) (fun _ => ?_)
        · refine zj_iconst 86 0 X kd_M_device_85 ki_0 rfl ?_
          refine zj_loc [0] (L2 := [(0, .ref (P.1 0))]) rfl ?_
          exact j_M_device_86 X s0 0
        · refine zj_iconst 82 1 X kd_M_device_81 ki_1 rfl ?_
          refine zj_goto 86 X kd_M_device_82 rfl ?_
          refine zj_loc [0] (L2 := [(0, .ref (P.1 0))]) rfl ?_
          exact j_M_device_86 X s0 1
theorem c_M_device {l : Launch} {P : ZP} (hV : ZVok (zmV P)) (s0 : ZS) (x1 : Int32) {z : Int32 × ZS} (h : f_M_device s0 x1 = some z) : zMi l y_M_device b_M_device 3 (some .int) 0 0 (zmV P) s0 [.ref (P.1 0), .int x1] z :=
  zMi_of (by decide +kernel) rfl rfl (Nat.le_of_ble_eq_true rfl) hV (fun _ X => j_M_device X s0 x1) h
theorem kc_M_92 : zCV "FrameMachineModel" 92 y_M_device b_M_device 3 (some .int) 1 := ⟨⟨kw_941, kw_943, ksel_39, kw_11, kw_944⟩, by decide +kernel, by decide +kernel, by decide +kernel⟩
theorem mc_M_92 {ρ : Type} {E : ZE} {P : ZP} {A : Nat → Prop} {cc : ByteArray} {nL : Nat} {ret : Option FieldType} {fr lo : Nat} {F : ρ → State → Prop} {pc : Nat} {L : List (Nat × Value)} {rest : List Value} {σ : ZS} {x1 : Int32} {K : Int32 × ZS → Option ρ} (q : Nat) (X : ZX E (zmV P) A "FrameMachineModel" cc nL ret fr lo) (d : decode cc pc = .ok (.invokevirtual 92, 3)) (hfr : 0 + 1 ≤ fr) (hlo : 8 + (3 + 11) + 0 ≤ lo) (hr : (rest.map fun v => v.category).sum ≤ 8) (hq : pc + 3 = q) (kk : ∀ p : Int32 × ZS, ZJ E (zmV P) A nL F q L (.int p.1 :: rest) p.2 (K p)) : ZJ E (zmV P) A nL F pc L (.int x1 :: .ref (P.1 0) :: rest) σ ((f_M_device σ x1).bind K) :=
  zj_cVi q 0 0 (As := [.int x1]) (rest := rest) X kc_M_92 hfr hlo (fun p h => c_M_device (zx_v X) σ x1 h) rfl rfl rfl hr d hq kk
