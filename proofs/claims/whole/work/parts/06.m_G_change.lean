-- FrameMachine$Registers.change(II)V
theorem kd_G_change_0 : decode b_G_change 0 = .ok (.iload_n 1, 1) := by decide +kernel
theorem kd_G_change_1 : decode b_G_change 1 = .ok (.bipush 8, 2) := by decide +kernel
theorem kd_G_change_3 : decode b_G_change 3 = .ok (.if_icmp .ge 16, 3) := by decide +kernel
theorem kd_G_change_6 : decode b_G_change 6 = .ok (.aload_n 0, 1) := by decide +kernel
theorem kd_G_change_7 : decode b_G_change 7 = .ok (.getfield 9, 3) := by decide +kernel
theorem kd_G_change_10 : decode b_G_change 10 = .ok (.iload_n 1, 1) := by decide +kernel
theorem kd_G_change_11 : decode b_G_change 11 = .ok (.bipush 7, 2) := by decide +kernel
theorem kd_G_change_13 : decode b_G_change 13 = .ok (.iand, 1) := by decide +kernel
theorem kd_G_change_14 : decode b_G_change 14 = .ok (.iload_n 2, 1) := by decide +kernel
theorem kd_G_change_15 : decode b_G_change 15 = .ok (.iastore, 1) := by decide +kernel
theorem kd_G_change_16 : decode b_G_change 16 = .ok (.goto 41, 3) := by decide +kernel
theorem kd_G_change_19 : decode b_G_change 19 = .ok (.iload_n 1, 1) := by decide +kernel
theorem kd_G_change_20 : decode b_G_change 20 = .ok (.bipush 16, 2) := by decide +kernel
theorem kd_G_change_22 : decode b_G_change 22 = .ok (.if_icmp .ge 16, 3) := by decide +kernel
theorem kd_G_change_25 : decode b_G_change 25 = .ok (.aload_n 0, 1) := by decide +kernel
theorem kd_G_change_26 : decode b_G_change 26 = .ok (.getfield 15, 3) := by decide +kernel
theorem kd_G_change_29 : decode b_G_change 29 = .ok (.iload_n 1, 1) := by decide +kernel
theorem kd_G_change_30 : decode b_G_change 30 = .ok (.bipush 7, 2) := by decide +kernel
theorem kd_G_change_32 : decode b_G_change 32 = .ok (.iand, 1) := by decide +kernel
theorem kd_G_change_33 : decode b_G_change 33 = .ok (.iload_n 2, 1) := by decide +kernel
theorem kd_G_change_34 : decode b_G_change 34 = .ok (.iastore, 1) := by decide +kernel
theorem kd_G_change_35 : decode b_G_change 35 = .ok (.goto 22, 3) := by decide +kernel
theorem kd_G_change_38 : decode b_G_change 38 = .ok (.iload_n 1, 1) := by decide +kernel
theorem kd_G_change_39 : decode b_G_change 39 = .ok (.bipush 16, 2) := by decide +kernel
theorem kd_G_change_41 : decode b_G_change 41 = .ok (.if_icmp .ne 11, 3) := by decide +kernel
theorem kd_G_change_44 : decode b_G_change 44 = .ok (.aload_n 0, 1) := by decide +kernel
theorem kd_G_change_45 : decode b_G_change 45 = .ok (.iload_n 2, 1) := by decide +kernel
theorem kd_G_change_46 : decode b_G_change 46 = .ok (.putfield 22, 3) := by decide +kernel
theorem kd_G_change_49 : decode b_G_change 49 = .ok (.goto 8, 3) := by decide +kernel
theorem kd_G_change_52 : decode b_G_change 52 = .ok (.aload_n 0, 1) := by decide +kernel
theorem kd_G_change_53 : decode b_G_change 53 = .ok (.iload_n 2, 1) := by decide +kernel
theorem kd_G_change_54 : decode b_G_change 54 = .ok (.putfield 25, 3) := by decide +kernel
theorem kd_G_change_57 : decode b_G_change 57 = .ok (.return_, 1) := by decide +kernel
noncomputable def f_G_change (s0 : ZS) (x1 : Int32) (x2 : Int32) : Option (ZS) :=
  if 8 ≤ x1 then
    if 16 ≤ x1 then
      if x1 = 16 then
        zs_nm (zs_up s0 0 13 x2) fun s2 =>
        some s2
      else
        zs_nm (zs_up s0 0 14 x2) fun s1 =>
        some s1
    else
      if (x1 &&& 7) < 0 ∨ 8 ≤ (x1 &&& 7).toNatClampNeg then none else
      zs_nm (zs_up s0 3 (x1 &&& 7).toNatClampNeg x2) fun s3 =>
      some s3
  else
    if (x1 &&& 7) < 0 ∨ 8 ≤ (x1 &&& 7).toNatClampNeg then none else
    zs_nm (zs_up s0 2 (x1 &&& 7).toNatClampNeg x2) fun s4 =>
    some s4
theorem j_G_change {P : ZP} {E : ZE} {A : Nat → Prop} (X : ZX E (zcV P) A "FrameMachine$Registers" b_G_change 3 none 0 0) (s0 : ZS) (x1 : Int32) (x2 : Int32) : ZJ E (zcV P) A 3 (zFv E (zcV P) A) 0 [(0, .ref (P.1 3)), (1, .int x1), (2, .int x2)] [] s0 (f_G_change s0 x1 x2) := by
  unfold f_G_change
  refine zj_iload_n 1 1 X kd_G_change_0 rfl rfl rfl ?_
  refine zj_bipush 3 8 X kd_G_change_1 kb_8 rfl ?_
  refine zj_icmp_ge 19 6 X kd_G_change_3 rfl rfl (fun _ => ?_) (fun _ => ?_)
  · refine zj_iload_n 20 1 X kd_G_change_19 rfl rfl rfl ?_
    refine zj_bipush 22 16 X kd_G_change_20 kb_16 rfl ?_
    refine zj_icmp_ge 38 25 X kd_G_change_22 rfl rfl (fun _ => ?_) (fun _ => ?_)
    · refine zj_iload_n 39 1 X kd_G_change_38 rfl rfl rfl ?_
      refine zj_bipush 41 16 X kd_G_change_39 kb_16 rfl ?_
      refine zj_icmp_ne 52 44 X kd_G_change_41 rfl rfl (fun _ => ?_) (fun _ => ?_)
      · refine zj_aload_n 45 0 X kd_G_change_44 rfl rfl rfl ?_
        refine zj_iload_n 46 2 X kd_G_change_45 rfl rfl rfl ?_
        refine pf_G_22 49 X kd_G_change_46 rfl ?_
        refine zj_nms (fun s2 => ?_)
        refine zj_goto 57 X kd_G_change_49 rfl ?_
        exact zj_vret X kd_G_change_57
      · refine zj_aload_n 53 0 X kd_G_change_52 rfl rfl rfl ?_
        refine zj_iload_n 54 2 X kd_G_change_53 rfl rfl rfl ?_
        refine pf_G_25 57 X kd_G_change_54 rfl ?_
        refine zj_nms (fun s1 => ?_)
        exact zj_vret X kd_G_change_57
    · refine zj_aload_n 26 0 X kd_G_change_25 rfl rfl rfl ?_
      refine gf_G_15 29 X kd_G_change_26 rfl ?_
      refine zj_iload_n 30 1 X kd_G_change_29 rfl rfl rfl ?_
      refine zj_bipush 32 7 X kd_G_change_30 kb_7 rfl ?_
      refine zj_iand 33 X kd_G_change_32 rfl ?_
      refine zj_iload_n 34 2 X kd_G_change_33 rfl rfl rfl ?_
      refine zj_ng (fun hg => ?_)
      refine as_C_3 35 X kd_G_change_34 hg rfl ?_
      refine zj_nms (fun s3 => ?_)
      refine zj_goto 57 X kd_G_change_35 rfl ?_
      exact zj_vret X kd_G_change_57
  · refine zj_aload_n 7 0 X kd_G_change_6 rfl rfl rfl ?_
    refine gf_G_9 10 X kd_G_change_7 rfl ?_
    refine zj_iload_n 11 1 X kd_G_change_10 rfl rfl rfl ?_
    refine zj_bipush 13 7 X kd_G_change_11 kb_7 rfl ?_
    refine zj_iand 14 X kd_G_change_13 rfl ?_
    refine zj_iload_n 15 2 X kd_G_change_14 rfl rfl rfl ?_
    refine zj_ng (fun hg => ?_)
    refine as_C_2 16 X kd_G_change_15 hg rfl ?_
    refine zj_nms (fun s4 => ?_)
    refine zj_goto 57 X kd_G_change_16 rfl ?_
    exact zj_vret X kd_G_change_57
theorem c_G_change {l : Launch} {P : ZP} (hV : ZVok (zcV P)) (s0 : ZS) (x1 : Int32) (x2 : Int32) {z : ZS} (h : f_G_change s0 x1 x2 = some z) : zMv l y_G_change b_G_change 3 none 0 0 (zcV P) s0 [.ref (P.1 3), .int x1, .int x2] z :=
  zMv_of (by decide +kernel) rfl rfl (Nat.le_of_ble_eq_true rfl) hV (fun _ X => j_G_change X s0 x1 x2) h
theorem kc_F_79 : zCV "FrameMachine" 79 y_G_change b_G_change 3 none 2 := ⟨⟨kw_454, kw_455, kw_456, kw_4, kw_457⟩, by decide +kernel, by decide +kernel, by decide +kernel⟩
theorem mc_F_79 {ρ : Type} {E : ZE} {P : ZP} {A : Nat → Prop} {cc : ByteArray} {nL : Nat} {ret : Option FieldType} {fr lo : Nat} {F : ρ → State → Prop} {pc : Nat} {L : List (Nat × Value)} {rest : List Value} {σ : ZS} {x1 : Int32} {x2 : Int32} {K : ZS → Option ρ} (q : Nat) (X : ZX E (zcV P) A "FrameMachine" cc nL ret fr lo) (d : decode cc pc = .ok (.invokevirtual 79, 3)) (hfr : 0 + 1 ≤ fr) (hlo : 8 + (3 + 11) + 0 ≤ lo) (hr : (rest.map fun v => v.category).sum ≤ 8) (hq : pc + 3 = q) (kk : ∀ p : ZS, ZJ E (zcV P) A nL F q L (rest) p (K p)) : ZJ E (zcV P) A nL F pc L (.int x2 :: .int x1 :: .ref (P.1 3) :: rest) σ ((f_G_change σ x1 x2).bind K) :=
  zj_cVv q 3 3 (As := [.int x1, .int x2]) (rest := rest) X kc_F_79 hfr hlo (fun p h => c_G_change (zx_v X) σ x1 x2 h) rfl rfl rfl hr d hq kk
-- FrameMachine$Registers.changeStatus(I)V
theorem kd_G_changeStatus_0 : decode b_G_changeStatus 0 = .ok (.iload_n 1, 1) := by decide +kernel
theorem kd_G_changeStatus_1 : decode b_G_changeStatus 1 = .ok (.aload_n 0, 1) := by decide +kernel
theorem kd_G_changeStatus_2 : decode b_G_changeStatus 2 = .ok (.getfield 18, 3) := by decide +kernel
theorem kd_G_changeStatus_5 : decode b_G_changeStatus 5 = .ok (.ixor, 1) := by decide +kernel
theorem kd_G_changeStatus_6 : decode b_G_changeStatus 6 = .ok (.sipush 8192, 3) := by decide +kernel
theorem kd_G_changeStatus_9 : decode b_G_changeStatus 9 = .ok (.iand, 1) := by decide +kernel
theorem kd_G_changeStatus_10 : decode b_G_changeStatus 10 = .ok (.ifCond .eq 7, 3) := by decide +kernel
theorem kd_G_changeStatus_13 : decode b_G_changeStatus 13 = .ok (.iconst 1, 1) := by decide +kernel
theorem kd_G_changeStatus_14 : decode b_G_changeStatus 14 = .ok (.goto 4, 3) := by decide +kernel
theorem kd_G_changeStatus_17 : decode b_G_changeStatus 17 = .ok (.iconst 0, 1) := by decide +kernel
theorem kd_G_changeStatus_18 : decode b_G_changeStatus 18 = .ok (.istore_n 2, 1) := by decide +kernel
theorem kd_G_changeStatus_19 : decode b_G_changeStatus 19 = .ok (.aload_n 0, 1) := by decide +kernel
theorem kd_G_changeStatus_20 : decode b_G_changeStatus 20 = .ok (.iload_n 1, 1) := by decide +kernel
theorem kd_G_changeStatus_21 : decode b_G_changeStatus 21 = .ok (.ldc 28, 2) := by decide +kernel
theorem kd_G_changeStatus_23 : decode b_G_changeStatus 23 = .ok (.iand, 1) := by decide +kernel
theorem kd_G_changeStatus_24 : decode b_G_changeStatus 24 = .ok (.putfield 18, 3) := by decide +kernel
theorem kd_G_changeStatus_27 : decode b_G_changeStatus 27 = .ok (.iload_n 2, 1) := by decide +kernel
theorem kd_G_changeStatus_28 : decode b_G_changeStatus 28 = .ok (.ifCond .eq 27, 3) := by decide +kernel
theorem kd_G_changeStatus_31 : decode b_G_changeStatus 31 = .ok (.aload_n 0, 1) := by decide +kernel
theorem kd_G_changeStatus_32 : decode b_G_changeStatus 32 = .ok (.getfield 15, 3) := by decide +kernel
theorem kd_G_changeStatus_35 : decode b_G_changeStatus 35 = .ok (.bipush 7, 2) := by decide +kernel
theorem kd_G_changeStatus_37 : decode b_G_changeStatus 37 = .ok (.iaload, 1) := by decide +kernel
theorem kd_G_changeStatus_38 : decode b_G_changeStatus 38 = .ok (.istore_n 3, 1) := by decide +kernel
theorem kd_G_changeStatus_39 : decode b_G_changeStatus 39 = .ok (.aload_n 0, 1) := by decide +kernel
theorem kd_G_changeStatus_40 : decode b_G_changeStatus 40 = .ok (.getfield 15, 3) := by decide +kernel
theorem kd_G_changeStatus_43 : decode b_G_changeStatus 43 = .ok (.bipush 7, 2) := by decide +kernel
theorem kd_G_changeStatus_45 : decode b_G_changeStatus 45 = .ok (.aload_n 0, 1) := by decide +kernel
theorem kd_G_changeStatus_46 : decode b_G_changeStatus 46 = .ok (.getfield 22, 3) := by decide +kernel
theorem kd_G_changeStatus_49 : decode b_G_changeStatus 49 = .ok (.iastore, 1) := by decide +kernel
theorem kd_G_changeStatus_50 : decode b_G_changeStatus 50 = .ok (.aload_n 0, 1) := by decide +kernel
theorem kd_G_changeStatus_51 : decode b_G_changeStatus 51 = .ok (.iload_n 3, 1) := by decide +kernel
theorem kd_G_changeStatus_52 : decode b_G_changeStatus 52 = .ok (.putfield 22, 3) := by decide +kernel
theorem kd_G_changeStatus_55 : decode b_G_changeStatus 55 = .ok (.return_, 1) := by decide +kernel
noncomputable def f_G_changeStatus_18 (s0 : ZS) (l1 : Int32) (t0 : Int32) : Option (ZS) :=
  zs_nm (zs_up s0 0 15 (l1 &&& 42783)) fun s1 =>
  if t0 = 0 then
    some s1
  else
    if (7 : Int32) < 0 ∨ 8 ≤ (7 : Int32).toNatClampNeg then none else
    zs_nm (s1 3 (7 : Int32).toNatClampNeg) fun v2 =>
    if (7 : Int32) < 0 ∨ 8 ≤ (7 : Int32).toNatClampNeg then none else
    zs_nm (zs_up s1 3 (7 : Int32).toNatClampNeg (s1 0 13)) fun s3 =>
    zs_nm (zs_up s3 0 13 v2) fun s4 =>
    some s4
noncomputable def f_G_changeStatus (s0 : ZS) (x1 : Int32) : Option (ZS) :=
  if ((x1 ^^^ (s0 0 15)) &&& 8192) = 0 then
    f_G_changeStatus_18 s0 x1 0
  else
    f_G_changeStatus_18 s0 x1 1
theorem j_G_changeStatus_18 {P : ZP} {E : ZE} {A : Nat → Prop} (X : ZX E (zcV P) A "FrameMachine$Registers" b_G_changeStatus 4 none 0 0) (s0 : ZS) (l1 : Int32) (t0 : Int32) : ZJ E (zcV P) A 4 (zFv E (zcV P) A) 18 [(0, .ref (P.1 3)), (1, .int l1)] [.int t0] s0 (f_G_changeStatus_18 s0 l1 t0) := by
  unfold f_G_changeStatus_18
  refine zj_istore_n 19 [(2, .int t0), (0, .ref (P.1 3)), (1, .int l1)] X kd_G_changeStatus_18 rfl (Nat.le_of_ble_eq_true rfl) rfl rfl ?_
  refine zj_aload_n 20 1 X kd_G_changeStatus_19 rfl rfl rfl ?_
  refine zj_iload_n 21 2 X kd_G_changeStatus_20 rfl rfl rfl ?_
  refine zj_ldc 23 42783 X kd_G_changeStatus_21 kw_317 rfl ?_
  refine zj_iand 24 X kd_G_changeStatus_23 rfl ?_
  refine pf_G_18 27 X kd_G_changeStatus_24 rfl ?_
  refine zj_nms (fun s1 => ?_)
  refine zj_iload_n 28 0 X kd_G_changeStatus_27 rfl rfl rfl ?_
  refine zj_if_eq 55 31 X kd_G_changeStatus_28 rfl rfl (fun _ => ?_) (fun _ => ?_)
  · exact zj_vret X kd_G_changeStatus_55
  · refine zj_aload_n 32 1 X kd_G_changeStatus_31 rfl rfl rfl ?_
    refine gf_G_15 35 X kd_G_changeStatus_32 rfl ?_
    refine zj_bipush 37 7 X kd_G_changeStatus_35 kb_7 rfl ?_
    refine zj_ng (fun hg => ?_)
    refine al_C_3 38 X kd_G_changeStatus_37 hg rfl ?_
    refine zj_nmi (fun v2 => ?_)
    refine zj_istore_n 39 [(3, .int v2), (2, .int t0), (0, .ref (P.1 3)), (1, .int l1)] X kd_G_changeStatus_38 rfl (Nat.le_of_ble_eq_true rfl) rfl rfl ?_
    refine zj_aload_n 40 2 X kd_G_changeStatus_39 rfl rfl rfl ?_
    refine gf_G_15 43 X kd_G_changeStatus_40 rfl ?_
    refine zj_bipush 45 7 X kd_G_changeStatus_43 kb_7 rfl ?_
    refine zj_aload_n 46 2 X kd_G_changeStatus_45 rfl rfl rfl ?_
    refine gf_G_22 49 X kd_G_changeStatus_46 rfl ?_
    refine zj_ng (fun hg => ?_)
    refine as_C_3 50 X kd_G_changeStatus_49 hg rfl ?_
    refine zj_nms (fun s3 => ?_)
    refine zj_aload_n 51 2 X kd_G_changeStatus_50 rfl rfl rfl ?_
    refine zj_iload_n 52 0 X kd_G_changeStatus_51 rfl rfl rfl ?_
    refine pf_G_22 55 X kd_G_changeStatus_52 rfl ?_
    refine zj_nms (fun s4 => ?_)
    exact zj_vret X kd_G_changeStatus_55
theorem j_G_changeStatus {P : ZP} {E : ZE} {A : Nat → Prop} (X : ZX E (zcV P) A "FrameMachine$Registers" b_G_changeStatus 4 none 0 0) (s0 : ZS) (x1 : Int32) : ZJ E (zcV P) A 4 (zFv E (zcV P) A) 0 [(0, .ref (P.1 3)), (1, .int x1)] [] s0 (f_G_changeStatus s0 x1) := by
  unfold f_G_changeStatus
  refine zj_iload_n 1 1 X kd_G_changeStatus_0 rfl rfl rfl ?_
  refine zj_aload_n 2 0 X kd_G_changeStatus_1 rfl rfl rfl ?_
  refine gf_G_18 5 X kd_G_changeStatus_2 rfl ?_
  refine zj_ixor 6 X kd_G_changeStatus_5 rfl ?_
  refine zj_sipush 9 8192 X kd_G_changeStatus_6 ks_8192 rfl ?_
  refine zj_iand 10 X kd_G_changeStatus_9 rfl ?_
  refine zj_if_eq 17 13 X kd_G_changeStatus_10 rfl rfl (fun _ => ?_) (fun _ => ?_)
  · refine zj_iconst 18 0 X kd_G_changeStatus_17 ki_0 rfl ?_
    exact j_G_changeStatus_18 X s0 x1 0
  · refine zj_iconst 14 1 X kd_G_changeStatus_13 ki_1 rfl ?_
    refine zj_goto 18 X kd_G_changeStatus_14 rfl ?_
    exact j_G_changeStatus_18 X s0 x1 1
theorem c_G_changeStatus {l : Launch} {P : ZP} (hV : ZVok (zcV P)) (s0 : ZS) (x1 : Int32) {z : ZS} (h : f_G_changeStatus s0 x1 = some z) : zMv l y_G_changeStatus b_G_changeStatus 4 none 0 0 (zcV P) s0 [.ref (P.1 3), .int x1] z :=
  zMv_of (by decide +kernel) rfl rfl (Nat.le_of_ble_eq_true rfl) hV (fun _ X => j_G_changeStatus X s0 x1) h
theorem kc_F_83 : zCV "FrameMachine" 83 y_G_changeStatus b_G_changeStatus 4 none 1 := ⟨⟨kw_313, kw_314, kw_315, kw_4, kw_316⟩, by decide +kernel, by decide +kernel, by decide +kernel⟩
theorem mc_F_83 {ρ : Type} {E : ZE} {P : ZP} {A : Nat → Prop} {cc : ByteArray} {nL : Nat} {ret : Option FieldType} {fr lo : Nat} {F : ρ → State → Prop} {pc : Nat} {L : List (Nat × Value)} {rest : List Value} {σ : ZS} {x1 : Int32} {K : ZS → Option ρ} (q : Nat) (X : ZX E (zcV P) A "FrameMachine" cc nL ret fr lo) (d : decode cc pc = .ok (.invokevirtual 83, 3)) (hfr : 0 + 1 ≤ fr) (hlo : 8 + (4 + 11) + 0 ≤ lo) (hr : (rest.map fun v => v.category).sum ≤ 8) (hq : pc + 3 = q) (kk : ∀ p : ZS, ZJ E (zcV P) A nL F q L (rest) p (K p)) : ZJ E (zcV P) A nL F pc L (.int x1 :: .ref (P.1 3) :: rest) σ ((f_G_changeStatus σ x1).bind K) :=
  zj_cVv q 3 3 (As := [.int x1]) (rest := rest) X kc_F_83 hfr hlo (fun p h => c_G_changeStatus (zx_v X) σ x1 h) rfl rfl rfl hr d hq kk
theorem kc_E_63 : zCV "FrameMachine$Exceptions" 63 y_G_changeStatus b_G_changeStatus 4 none 1 := ⟨⟨kw_506, kw_314, kw_315, kw_4, kw_316⟩, by decide +kernel, by decide +kernel, by decide +kernel⟩
theorem mc_E_63 {ρ : Type} {E : ZE} {P : ZP} {A : Nat → Prop} {cc : ByteArray} {nL : Nat} {ret : Option FieldType} {fr lo : Nat} {F : ρ → State → Prop} {pc : Nat} {L : List (Nat × Value)} {rest : List Value} {σ : ZS} {x1 : Int32} {K : ZS → Option ρ} (q : Nat) (X : ZX E (zcV P) A "FrameMachine$Exceptions" cc nL ret fr lo) (d : decode cc pc = .ok (.invokevirtual 63, 3)) (hfr : 0 + 1 ≤ fr) (hlo : 8 + (4 + 11) + 0 ≤ lo) (hr : (rest.map fun v => v.category).sum ≤ 8) (hq : pc + 3 = q) (kk : ∀ p : ZS, ZJ E (zcV P) A nL F q L (rest) p (K p)) : ZJ E (zcV P) A nL F pc L (.int x1 :: .ref (P.1 3) :: rest) σ ((f_G_changeStatus σ x1).bind K) :=
  zj_cVv q 3 3 (As := [.int x1]) (rest := rest) X kc_E_63 hfr hlo (fun p h => c_G_changeStatus (zx_v X) σ x1 h) rfl rfl rfl hr d hq kk
theorem kc_P_237 : zCV "FrameMachine$Processor" 237 y_G_changeStatus b_G_changeStatus 4 none 1 := ⟨⟨kw_725, kw_314, kw_315, kw_4, kw_316⟩, by decide +kernel, by decide +kernel, by decide +kernel⟩
theorem mc_P_237 {ρ : Type} {E : ZE} {P : ZP} {A : Nat → Prop} {cc : ByteArray} {nL : Nat} {ret : Option FieldType} {fr lo : Nat} {F : ρ → State → Prop} {pc : Nat} {L : List (Nat × Value)} {rest : List Value} {σ : ZS} {x1 : Int32} {K : ZS → Option ρ} (q : Nat) (X : ZX E (zcV P) A "FrameMachine$Processor" cc nL ret fr lo) (d : decode cc pc = .ok (.invokevirtual 237, 3)) (hfr : 0 + 1 ≤ fr) (hlo : 8 + (4 + 11) + 0 ≤ lo) (hr : (rest.map fun v => v.category).sum ≤ 8) (hq : pc + 3 = q) (kk : ∀ p : ZS, ZJ E (zcV P) A nL F q L (rest) p (K p)) : ZJ E (zcV P) A nL F pc L (.int x1 :: .ref (P.1 3) :: rest) σ ((f_G_changeStatus σ x1).bind K) :=
  zj_cVv q 3 3 (As := [.int x1]) (rest := rest) X kc_P_237 hfr hlo (fun p h => c_G_changeStatus (zx_v X) σ x1 h) rfl rfl rfl hr d hq kk
-- FrameMachine.status(I)I
theorem kd_F_status_0 : decode b_F_status 0 = .ok (.aload_n 0, 1) := by decide +kernel
theorem kd_F_status_1 : decode b_F_status 1 = .ok (.getfield 28, 3) := by decide +kernel
theorem kd_F_status_4 : decode b_F_status 4 = .ok (.iload_n 1, 1) := by decide +kernel
theorem kd_F_status_5 : decode b_F_status 5 = .ok (.invokevirtual 83, 3) := by decide +kernel
theorem kd_F_status_8 : decode b_F_status 8 = .ok (.aload_n 0, 1) := by decide +kernel
theorem kd_F_status_9 : decode b_F_status 9 = .ok (.getfield 28, 3) := by decide +kernel
theorem kd_F_status_12 : decode b_F_status 12 = .ok (.getfield 87, 3) := by decide +kernel
theorem kd_F_status_15 : decode b_F_status 15 = .ok (.ireturn, 1) := by decide +kernel
noncomputable def f_F_status (s0 : ZS) (x1 : Int32) : Option (Int32 × ZS) :=
  (f_G_changeStatus s0 x1).bind fun s1 =>
  some (s1 0 15, s1)
theorem j_F_status {P : ZP} {E : ZE} {A : Nat → Prop} (X : ZX E (zcV P) A "FrameMachine" b_F_status 2 (some .int) 1 23) (s0 : ZS) (x1 : Int32) : ZJ E (zcV P) A 2 (zFi E (zcV P) A) 0 [(0, .ref (P.1 0)), (1, .int x1)] [] s0 (f_F_status s0 x1) := by
  unfold f_F_status
  refine zj_aload_n 1 0 X kd_F_status_0 rfl rfl rfl ?_
  refine gf_F_28 4 X kd_F_status_1 rfl ?_
  refine zj_iload_n 5 1 X kd_F_status_4 rfl rfl rfl ?_
  refine mc_F_83 8 X kd_F_status_5 (Nat.le_of_ble_eq_true rfl) (Nat.le_of_ble_eq_true rfl) (Nat.le_of_ble_eq_true rfl) rfl (fun s1 => ?_)
  refine zj_aload_n 9 0 X kd_F_status_8 rfl rfl rfl ?_
  refine gf_F_28 12 X kd_F_status_9 rfl ?_
  refine gf_F_87 15 X kd_F_status_12 rfl ?_
  exact zj_iret X kd_F_status_15
theorem c_F_status {l : Launch} {P : ZP} (hV : ZVok (zcV P)) (s0 : ZS) (x1 : Int32) {z : Int32 × ZS} (h : f_F_status s0 x1 = some z) : zMi l y_F_status b_F_status 2 (some .int) 1 23 (zcV P) s0 [.ref (P.1 0), .int x1] z :=
  zMi_of (by decide +kernel) rfl rfl (Nat.le_of_ble_eq_true rfl) hV (fun _ X => j_F_status X s0 x1) h
-- FrameMachine$Devices.stepTimer()V
theorem kd_D_stepTimer_0 : decode b_D_stepTimer 0 = .ok (.aload_n 0, 1) := by decide +kernel
theorem kd_D_stepTimer_1 : decode b_D_stepTimer 1 = .ok (.getfield 22, 3) := by decide +kernel
theorem kd_D_stepTimer_4 : decode b_D_stepTimer 4 = .ok (.ifCond .ne 4, 3) := by decide +kernel
theorem kd_D_stepTimer_7 : decode b_D_stepTimer 7 = .ok (.return_, 1) := by decide +kernel
theorem kd_D_stepTimer_8 : decode b_D_stepTimer 8 = .ok (.aload_n 0, 1) := by decide +kernel
theorem kd_D_stepTimer_9 : decode b_D_stepTimer 9 = .ok (.dup, 1) := by decide +kernel
theorem kd_D_stepTimer_10 : decode b_D_stepTimer 10 = .ok (.getfield 15, 3) := by decide +kernel
theorem kd_D_stepTimer_13 : decode b_D_stepTimer 13 = .ok (.iconst 1, 1) := by decide +kernel
theorem kd_D_stepTimer_14 : decode b_D_stepTimer 14 = .ok (.isub, 1) := by decide +kernel
theorem kd_D_stepTimer_15 : decode b_D_stepTimer 15 = .ok (.putfield 15, 3) := by decide +kernel
theorem kd_D_stepTimer_18 : decode b_D_stepTimer 18 = .ok (.aload_n 0, 1) := by decide +kernel
theorem kd_D_stepTimer_19 : decode b_D_stepTimer 19 = .ok (.getfield 15, 3) := by decide +kernel
theorem kd_D_stepTimer_22 : decode b_D_stepTimer 22 = .ok (.ifCond .ne 16, 3) := by decide +kernel
theorem kd_D_stepTimer_25 : decode b_D_stepTimer 25 = .ok (.aload_n 0, 1) := by decide +kernel
theorem kd_D_stepTimer_26 : decode b_D_stepTimer 26 = .ok (.iconst 1, 1) := by decide +kernel
theorem kd_D_stepTimer_27 : decode b_D_stepTimer 27 = .ok (.putfield 26, 3) := by decide +kernel
theorem kd_D_stepTimer_30 : decode b_D_stepTimer 30 = .ok (.aload_n 0, 1) := by decide +kernel
theorem kd_D_stepTimer_31 : decode b_D_stepTimer 31 = .ok (.aload_n 0, 1) := by decide +kernel
theorem kd_D_stepTimer_32 : decode b_D_stepTimer 32 = .ok (.getfield 11, 3) := by decide +kernel
theorem kd_D_stepTimer_35 : decode b_D_stepTimer 35 = .ok (.putfield 15, 3) := by decide +kernel
theorem kd_D_stepTimer_38 : decode b_D_stepTimer 38 = .ok (.return_, 1) := by decide +kernel
noncomputable def f_D_stepTimer (s0 : ZS)  : Option (ZS) :=
  if (s0 0 2) = 0 then
    some s0
  else
    zs_nm (zs_up s0 0 1 ((s0 0 1) - 1)) fun s1 =>
    if (s1 0 1) = 0 then
      zs_nm (zs_up s1 0 3 1) fun s2 =>
      zs_nm (zs_up s2 0 1 (s2 0 0)) fun s3 =>
      some s3
    else
      some s1
theorem j_D_stepTimer {P : ZP} {E : ZE} {A : Nat → Prop} (X : ZX E (zcV P) A "FrameMachine$Devices" b_D_stepTimer 1 none 0 0) (s0 : ZS)  : ZJ E (zcV P) A 1 (zFv E (zcV P) A) 0 [(0, .ref (P.1 1))] [] s0 (f_D_stepTimer s0) := by
  unfold f_D_stepTimer
  refine zj_aload_n 1 0 X kd_D_stepTimer_0 rfl rfl rfl ?_
  refine gf_D_22 4 X kd_D_stepTimer_1 rfl ?_
  refine zj_if_ne 8 7 X kd_D_stepTimer_4 rfl rfl (fun _ => ?_) (fun _ => ?_)
  · exact zj_vret X kd_D_stepTimer_7
  · refine zj_aload_n 9 0 X kd_D_stepTimer_8 rfl rfl rfl ?_
    refine zj_dup 10 X kd_D_stepTimer_9 rfl rfl ?_
    refine gf_D_15 13 X kd_D_stepTimer_10 rfl ?_
    refine zj_iconst 14 1 X kd_D_stepTimer_13 ki_1 rfl ?_
    refine zj_isub 15 X kd_D_stepTimer_14 rfl ?_
    refine pf_D_15 18 X kd_D_stepTimer_15 rfl ?_
    refine zj_nms (fun s1 => ?_)
    refine zj_aload_n 19 0 X kd_D_stepTimer_18 rfl rfl rfl ?_
    refine gf_D_15 22 X kd_D_stepTimer_19 rfl ?_
    refine zj_if_ne 38 25 X kd_D_stepTimer_22 rfl rfl (fun _ => ?_) (fun _ => ?_)
    · refine zj_aload_n 26 0 X kd_D_stepTimer_25 rfl rfl rfl ?_
      refine zj_iconst 27 1 X kd_D_stepTimer_26 ki_1 rfl ?_
      refine pf_D_26 30 X kd_D_stepTimer_27 (Or.inr rfl) rfl ?_
      refine zj_nms (fun s2 => ?_)
      refine zj_aload_n 31 0 X kd_D_stepTimer_30 rfl rfl rfl ?_
      refine zj_aload_n 32 0 X kd_D_stepTimer_31 rfl rfl rfl ?_
      refine gf_D_11 35 X kd_D_stepTimer_32 rfl ?_
      refine pf_D_15 38 X kd_D_stepTimer_35 rfl ?_
      refine zj_nms (fun s3 => ?_)
      exact zj_vret X kd_D_stepTimer_38
    · exact zj_vret X kd_D_stepTimer_38
theorem c_D_stepTimer {l : Launch} {P : ZP} (hV : ZVok (zcV P)) (s0 : ZS)  {z : ZS} (h : f_D_stepTimer s0  = some z) : zMv l y_D_stepTimer b_D_stepTimer 1 none 0 0 (zcV P) s0 [.ref (P.1 1)] z :=
  zMv_of (by decide +kernel) rfl rfl (Nat.le_of_ble_eq_true rfl) hV (fun _ X => j_D_stepTimer X s0 ) h
theorem kc_D_44 : zCV "FrameMachine$Devices" 44 y_D_stepTimer b_D_stepTimer 1 none 0 := ⟨⟨kw_474, kw_476, ksel_2, kw_2, kw_477⟩, by decide +kernel, by decide +kernel, by decide +kernel⟩
theorem mc_D_44 {ρ : Type} {E : ZE} {P : ZP} {A : Nat → Prop} {cc : ByteArray} {nL : Nat} {ret : Option FieldType} {fr lo : Nat} {F : ρ → State → Prop} {pc : Nat} {L : List (Nat × Value)} {rest : List Value} {σ : ZS}  {K : ZS → Option ρ} (q : Nat) (X : ZX E (zcV P) A "FrameMachine$Devices" cc nL ret fr lo) (d : decode cc pc = .ok (.invokevirtual 44, 3)) (hfr : 0 + 1 ≤ fr) (hlo : 8 + (1 + 11) + 0 ≤ lo) (hr : (rest.map fun v => v.category).sum ≤ 8) (hq : pc + 3 = q) (kk : ∀ p : ZS, ZJ E (zcV P) A nL F q L (rest) p (K p)) : ZJ E (zcV P) A nL F pc L (.ref (P.1 1) :: rest) σ ((f_D_stepTimer σ ).bind K) :=
  zj_cVv q 1 1 (As := []) (rest := rest) X kc_D_44 hfr hlo (fun p h => c_D_stepTimer (zx_v X) σ  h) rfl rfl rfl hr d hq kk
-- FrameMachine$Devices.stepLine()V
theorem kd_D_stepLine_0 : decode b_D_stepLine 0 = .ok (.aload_n 0, 1) := by decide +kernel
theorem kd_D_stepLine_1 : decode b_D_stepLine 1 = .ok (.getfield 38, 3) := by decide +kernel
theorem kd_D_stepLine_4 : decode b_D_stepLine 4 = .ok (.ifCond .ne 4, 3) := by decide +kernel
theorem kd_D_stepLine_7 : decode b_D_stepLine 7 = .ok (.return_, 1) := by decide +kernel
theorem kd_D_stepLine_8 : decode b_D_stepLine 8 = .ok (.aload_n 0, 1) := by decide +kernel
theorem kd_D_stepLine_9 : decode b_D_stepLine 9 = .ok (.dup, 1) := by decide +kernel
theorem kd_D_stepLine_10 : decode b_D_stepLine 10 = .ok (.getfield 38, 3) := by decide +kernel
theorem kd_D_stepLine_13 : decode b_D_stepLine 13 = .ok (.iconst 1, 1) := by decide +kernel
theorem kd_D_stepLine_14 : decode b_D_stepLine 14 = .ok (.isub, 1) := by decide +kernel
theorem kd_D_stepLine_15 : decode b_D_stepLine 15 = .ok (.putfield 38, 3) := by decide +kernel
theorem kd_D_stepLine_18 : decode b_D_stepLine 18 = .ok (.aload_n 0, 1) := by decide +kernel
theorem kd_D_stepLine_19 : decode b_D_stepLine 19 = .ok (.getfield 38, 3) := by decide +kernel
theorem kd_D_stepLine_22 : decode b_D_stepLine 22 = .ok (.ifCond .ne 29, 3) := by decide +kernel
theorem kd_D_stepLine_25 : decode b_D_stepLine 25 = .ok (.aload_n 0, 1) := by decide +kernel
theorem kd_D_stepLine_26 : decode b_D_stepLine 26 = .ok (.getfield 18, 3) := by decide +kernel
theorem kd_D_stepLine_29 : decode b_D_stepLine 29 = .ok (.aload_n 0, 1) := by decide +kernel
theorem kd_D_stepLine_30 : decode b_D_stepLine 30 = .ok (.getfield 50, 3) := by decide +kernel
theorem kd_D_stepLine_33 : decode b_D_stepLine 33 = .ok (.bipush 16, 2) := by decide +kernel
theorem kd_D_stepLine_35 : decode b_D_stepLine 35 = .ok (.irem, 1) := by decide +kernel
theorem kd_D_stepLine_36 : decode b_D_stepLine 36 = .ok (.aload_n 0, 1) := by decide +kernel
theorem kd_D_stepLine_37 : decode b_D_stepLine 37 = .ok (.getfield 41, 3) := by decide +kernel
theorem kd_D_stepLine_40 : decode b_D_stepLine 40 = .ok (.iastore, 1) := by decide +kernel
theorem kd_D_stepLine_41 : decode b_D_stepLine 41 = .ok (.aload_n 0, 1) := by decide +kernel
theorem kd_D_stepLine_42 : decode b_D_stepLine 42 = .ok (.dup, 1) := by decide +kernel
theorem kd_D_stepLine_43 : decode b_D_stepLine 43 = .ok (.getfield 50, 3) := by decide +kernel
theorem kd_D_stepLine_46 : decode b_D_stepLine 46 = .ok (.iconst 1, 1) := by decide +kernel
theorem kd_D_stepLine_47 : decode b_D_stepLine 47 = .ok (.iadd, 1) := by decide +kernel
theorem kd_D_stepLine_48 : decode b_D_stepLine 48 = .ok (.putfield 50, 3) := by decide +kernel
theorem kd_D_stepLine_51 : decode b_D_stepLine 51 = .ok (.return_, 1) := by decide +kernel
noncomputable def f_D_stepLine (s0 : ZS)  : Option (ZS) :=
  if (s0 0 7) = 0 then
    some s0
  else
    zs_nm (zs_up s0 0 7 ((s0 0 7) - 1)) fun s1 =>
    if (s1 0 7) = 0 then
      if (zo_irem (s1 0 9) 16) < 0 ∨ 16 ≤ (zo_irem (s1 0 9) 16).toNatClampNeg then none else
      zs_nm (zs_up s1 4 (zo_irem (s1 0 9) 16).toNatClampNeg (s1 0 8)) fun s2 =>
      zs_nm (zs_up s2 0 9 ((s2 0 9) + 1)) fun s3 =>
      some s3
    else
      some s1
theorem j_D_stepLine {P : ZP} {E : ZE} {A : Nat → Prop} (X : ZX E (zcV P) A "FrameMachine$Devices" b_D_stepLine 1 none 0 0) (s0 : ZS)  : ZJ E (zcV P) A 1 (zFv E (zcV P) A) 0 [(0, .ref (P.1 1))] [] s0 (f_D_stepLine s0) := by
  unfold f_D_stepLine
  refine zj_aload_n 1 0 X kd_D_stepLine_0 rfl rfl rfl ?_
  refine gf_D_38 4 X kd_D_stepLine_1 rfl ?_
  refine zj_if_ne 8 7 X kd_D_stepLine_4 rfl rfl (fun _ => ?_) (fun _ => ?_)
  · exact zj_vret X kd_D_stepLine_7
  · refine zj_aload_n 9 0 X kd_D_stepLine_8 rfl rfl rfl ?_
    refine zj_dup 10 X kd_D_stepLine_9 rfl rfl ?_
    refine gf_D_38 13 X kd_D_stepLine_10 rfl ?_
    refine zj_iconst 14 1 X kd_D_stepLine_13 ki_1 rfl ?_
    refine zj_isub 15 X kd_D_stepLine_14 rfl ?_
    refine pf_D_38 18 X kd_D_stepLine_15 rfl ?_
    refine zj_nms (fun s1 => ?_)
    refine zj_aload_n 19 0 X kd_D_stepLine_18 rfl rfl rfl ?_
    refine gf_D_38 22 X kd_D_stepLine_19 rfl ?_
    refine zj_if_ne 51 25 X kd_D_stepLine_22 rfl rfl (fun _ => ?_) (fun _ => ?_)
    · refine zj_aload_n 26 0 X kd_D_stepLine_25 rfl rfl rfl ?_
      refine gf_D_18 29 X kd_D_stepLine_26 rfl ?_
      refine zj_aload_n 30 0 X kd_D_stepLine_29 rfl rfl rfl ?_
      refine gf_D_50 33 X kd_D_stepLine_30 rfl ?_
      refine zj_bipush 35 16 X kd_D_stepLine_33 kb_16 rfl ?_
      refine zj_irem 36 X kd_D_stepLine_35 (by decide) rfl ?_
      refine zj_aload_n 37 0 X kd_D_stepLine_36 rfl rfl rfl ?_
      refine gf_D_41 40 X kd_D_stepLine_37 rfl ?_
      refine zj_ng (fun hg => ?_)
      refine as_C_4 41 X kd_D_stepLine_40 hg rfl ?_
      refine zj_nms (fun s2 => ?_)
      refine zj_aload_n 42 0 X kd_D_stepLine_41 rfl rfl rfl ?_
      refine zj_dup 43 X kd_D_stepLine_42 rfl rfl ?_
      refine gf_D_50 46 X kd_D_stepLine_43 rfl ?_
      refine zj_iconst 47 1 X kd_D_stepLine_46 ki_1 rfl ?_
      refine zj_iadd 48 X kd_D_stepLine_47 rfl ?_
      refine pf_D_50 51 X kd_D_stepLine_48 rfl ?_
      refine zj_nms (fun s3 => ?_)
      exact zj_vret X kd_D_stepLine_51
    · exact zj_vret X kd_D_stepLine_51
theorem c_D_stepLine {l : Launch} {P : ZP} (hV : ZVok (zcV P)) (s0 : ZS)  {z : ZS} (h : f_D_stepLine s0  = some z) : zMv l y_D_stepLine b_D_stepLine 1 none 0 0 (zcV P) s0 [.ref (P.1 1)] z :=
  zMv_of (by decide +kernel) rfl rfl (Nat.le_of_ble_eq_true rfl) hV (fun _ X => j_D_stepLine X s0 ) h
theorem kc_D_47 : zCV "FrameMachine$Devices" 47 y_D_stepLine b_D_stepLine 1 none 0 := ⟨⟨kw_478, kw_480, ksel_3, kw_2, kw_481⟩, by decide +kernel, by decide +kernel, by decide +kernel⟩
theorem mc_D_47 {ρ : Type} {E : ZE} {P : ZP} {A : Nat → Prop} {cc : ByteArray} {nL : Nat} {ret : Option FieldType} {fr lo : Nat} {F : ρ → State → Prop} {pc : Nat} {L : List (Nat × Value)} {rest : List Value} {σ : ZS}  {K : ZS → Option ρ} (q : Nat) (X : ZX E (zcV P) A "FrameMachine$Devices" cc nL ret fr lo) (d : decode cc pc = .ok (.invokevirtual 47, 3)) (hfr : 0 + 1 ≤ fr) (hlo : 8 + (1 + 11) + 0 ≤ lo) (hr : (rest.map fun v => v.category).sum ≤ 8) (hq : pc + 3 = q) (kk : ∀ p : ZS, ZJ E (zcV P) A nL F q L (rest) p (K p)) : ZJ E (zcV P) A nL F pc L (.ref (P.1 1) :: rest) σ ((f_D_stepLine σ ).bind K) :=
  zj_cVv q 1 1 (As := []) (rest := rest) X kc_D_47 hfr hlo (fun p h => c_D_stepLine (zx_v X) σ  h) rfl rfl rfl hr d hq kk
-- FrameMachine$Devices.step()V
theorem kd_D_step_0 : decode b_D_step 0 = .ok (.aload_n 0, 1) := by decide +kernel
theorem kd_D_step_1 : decode b_D_step 1 = .ok (.invokevirtual 44, 3) := by decide +kernel
theorem kd_D_step_4 : decode b_D_step 4 = .ok (.aload_n 0, 1) := by decide +kernel
theorem kd_D_step_5 : decode b_D_step 5 = .ok (.invokevirtual 47, 3) := by decide +kernel
theorem kd_D_step_8 : decode b_D_step 8 = .ok (.return_, 1) := by decide +kernel
noncomputable def f_D_step (s0 : ZS)  : Option (ZS) :=
  (f_D_stepTimer s0 ).bind fun s1 =>
  (f_D_stepLine s1 ).bind fun s2 =>
  some s2
theorem j_D_step {P : ZP} {E : ZE} {A : Nat → Prop} (X : ZX E (zcV P) A "FrameMachine$Devices" b_D_step 1 none 1 20) (s0 : ZS)  : ZJ E (zcV P) A 1 (zFv E (zcV P) A) 0 [(0, .ref (P.1 1))] [] s0 (f_D_step s0) := by
  unfold f_D_step
  refine zj_aload_n 1 0 X kd_D_step_0 rfl rfl rfl ?_
  refine mc_D_44 4 X kd_D_step_1 (Nat.le_of_ble_eq_true rfl) (Nat.le_of_ble_eq_true rfl) (Nat.le_of_ble_eq_true rfl) rfl (fun s1 => ?_)
  refine zj_aload_n 5 0 X kd_D_step_4 rfl rfl rfl ?_
  refine mc_D_47 8 X kd_D_step_5 (Nat.le_of_ble_eq_true rfl) (Nat.le_of_ble_eq_true rfl) (Nat.le_of_ble_eq_true rfl) rfl (fun s2 => ?_)
  exact zj_vret X kd_D_step_8
theorem c_D_step {l : Launch} {P : ZP} (hV : ZVok (zcV P)) (s0 : ZS)  {z : ZS} (h : f_D_step s0  = some z) : zMv l y_D_step b_D_step 1 none 1 20 (zcV P) s0 [.ref (P.1 1)] z :=
  zMv_of (by decide +kernel) rfl rfl (Nat.le_of_ble_eq_true rfl) hV (fun _ X => j_D_step X s0 ) h
theorem kc_P_68 : zCV "FrameMachine$Processor" 68 y_D_step b_D_step 1 none 0 := ⟨⟨kw_470, kw_471, kw_472, kw_2, kw_473⟩, by decide +kernel, by decide +kernel, by decide +kernel⟩
theorem mc_P_68 {ρ : Type} {E : ZE} {P : ZP} {A : Nat → Prop} {cc : ByteArray} {nL : Nat} {ret : Option FieldType} {fr lo : Nat} {F : ρ → State → Prop} {pc : Nat} {L : List (Nat × Value)} {rest : List Value} {σ : ZS}  {K : ZS → Option ρ} (q : Nat) (X : ZX E (zcV P) A "FrameMachine$Processor" cc nL ret fr lo) (d : decode cc pc = .ok (.invokevirtual 68, 3)) (hfr : 1 + 1 ≤ fr) (hlo : 8 + (1 + 11) + 20 ≤ lo) (hr : (rest.map fun v => v.category).sum ≤ 8) (hq : pc + 3 = q) (kk : ∀ p : ZS, ZJ E (zcV P) A nL F q L (rest) p (K p)) : ZJ E (zcV P) A nL F pc L (.ref (P.1 1) :: rest) σ ((f_D_step σ ).bind K) :=
  zj_cVv q 1 1 (As := []) (rest := rest) X kc_P_68 hfr hlo (fun p h => c_D_step (zx_v X) σ  h) rfl rfl rfl hr d hq kk
-- FrameMachine$Devices.level()I
theorem kd_D_level_0 : decode b_D_level 0 = .ok (.aload_n 0, 1) := by decide +kernel
theorem kd_D_level_1 : decode b_D_level 1 = .ok (.getfield 29, 3) := by decide +kernel
theorem kd_D_level_4 : decode b_D_level 4 = .ok (.ifCond .eq 7, 3) := by decide +kernel
theorem kd_D_level_7 : decode b_D_level 7 = .ok (.iconst 4, 1) := by decide +kernel
theorem kd_D_level_8 : decode b_D_level 8 = .ok (.goto 15, 3) := by decide +kernel
theorem kd_D_level_11 : decode b_D_level 11 = .ok (.aload_n 0, 1) := by decide +kernel
theorem kd_D_level_12 : decode b_D_level 12 = .ok (.getfield 26, 3) := by decide +kernel
theorem kd_D_level_15 : decode b_D_level 15 = .ok (.ifCond .eq 7, 3) := by decide +kernel
theorem kd_D_level_18 : decode b_D_level 18 = .ok (.iconst 2, 1) := by decide +kernel
theorem kd_D_level_19 : decode b_D_level 19 = .ok (.goto 4, 3) := by decide +kernel
theorem kd_D_level_22 : decode b_D_level 22 = .ok (.iconst 0, 1) := by decide +kernel
theorem kd_D_level_23 : decode b_D_level 23 = .ok (.ireturn, 1) := by decide +kernel
noncomputable def f_D_level (s0 : ZS)  : Option (Int32 × ZS) :=
  if (s0 0 4) = 0 then
    if (s0 0 3) = 0 then
      some (0, s0)
    else
      some (2, s0)
  else
    some (4, s0)
theorem j_D_level {P : ZP} {E : ZE} {A : Nat → Prop} (X : ZX E (zcV P) A "FrameMachine$Devices" b_D_level 1 (some .int) 0 0) (s0 : ZS)  : ZJ E (zcV P) A 1 (zFi E (zcV P) A) 0 [(0, .ref (P.1 1))] [] s0 (f_D_level s0) := by
  unfold f_D_level
  refine zj_aload_n 1 0 X kd_D_level_0 rfl rfl rfl ?_
  refine gf_D_29 4 X kd_D_level_1 rfl ?_
  refine zj_if_eq 11 7 X kd_D_level_4 rfl rfl (fun _ => ?_) (fun _ => ?_)
  · refine zj_aload_n 12 0 X kd_D_level_11 rfl rfl rfl ?_
    refine gf_D_26 15 X kd_D_level_12 rfl ?_
    refine zj_if_eq 22 18 X kd_D_level_15 rfl rfl (fun _ => ?_) (fun _ => ?_)
    · refine zj_iconst 23 0 X kd_D_level_22 ki_0 rfl ?_
      exact zj_iret X kd_D_level_23
    · refine zj_iconst 19 2 X kd_D_level_18 ki_2 rfl ?_
      refine zj_goto 23 X kd_D_level_19 rfl ?_
      exact zj_iret X kd_D_level_23
  · refine zj_iconst 8 4 X kd_D_level_7 ki_4 rfl ?_
    refine zj_goto 23 X kd_D_level_8 rfl ?_
    exact zj_iret X kd_D_level_23
theorem c_D_level {l : Launch} {P : ZP} (hV : ZVok (zcV P)) (s0 : ZS)  {z : Int32 × ZS} (h : f_D_level s0  = some z) : zMi l y_D_level b_D_level 1 (some .int) 0 0 (zcV P) s0 [.ref (P.1 1)] z :=
  zMi_of (by decide +kernel) rfl rfl (Nat.le_of_ble_eq_true rfl) hV (fun _ X => j_D_level X s0 ) h
theorem kc_P_73 : zCV "FrameMachine$Processor" 73 y_D_level b_D_level 1 (some .int) 0 := ⟨⟨kw_482, kw_483, kw_484, kw_2, kw_485⟩, by decide +kernel, by decide +kernel, by decide +kernel⟩
theorem mc_P_73 {ρ : Type} {E : ZE} {P : ZP} {A : Nat → Prop} {cc : ByteArray} {nL : Nat} {ret : Option FieldType} {fr lo : Nat} {F : ρ → State → Prop} {pc : Nat} {L : List (Nat × Value)} {rest : List Value} {σ : ZS}  {K : Int32 × ZS → Option ρ} (q : Nat) (X : ZX E (zcV P) A "FrameMachine$Processor" cc nL ret fr lo) (d : decode cc pc = .ok (.invokevirtual 73, 3)) (hfr : 0 + 1 ≤ fr) (hlo : 8 + (1 + 11) + 0 ≤ lo) (hr : (rest.map fun v => v.category).sum ≤ 8) (hq : pc + 3 = q) (kk : ∀ p : Int32 × ZS, ZJ E (zcV P) A nL F q L (.int p.1 :: rest) p.2 (K p)) : ZJ E (zcV P) A nL F pc L (.ref (P.1 1) :: rest) σ ((f_D_level σ ).bind K) :=
  zj_cVi q 1 1 (As := []) (rest := rest) X kc_P_73 hfr hlo (fun p h => c_D_level (zx_v X) σ  h) rfl rfl rfl hr d hq kk
-- FrameMachine$Registers.levelMask()I
theorem kd_G_levelMask_0 : decode b_G_levelMask 0 = .ok (.aload_n 0, 1) := by decide +kernel
theorem kd_G_levelMask_1 : decode b_G_levelMask 1 = .ok (.getfield 18, 3) := by decide +kernel
theorem kd_G_levelMask_4 : decode b_G_levelMask 4 = .ok (.sipush 1792, 3) := by decide +kernel
theorem kd_G_levelMask_7 : decode b_G_levelMask 7 = .ok (.iand, 1) := by decide +kernel
theorem kd_G_levelMask_8 : decode b_G_levelMask 8 = .ok (.bipush 8, 2) := by decide +kernel
theorem kd_G_levelMask_10 : decode b_G_levelMask 10 = .ok (.ishr, 1) := by decide +kernel
theorem kd_G_levelMask_11 : decode b_G_levelMask 11 = .ok (.ireturn, 1) := by decide +kernel
noncomputable def f_G_levelMask (s0 : ZS)  : Option (Int32 × ZS) :=
  some (zo_shr ((s0 0 15) &&& 1792) 8, s0)
theorem j_G_levelMask {P : ZP} {E : ZE} {A : Nat → Prop} (X : ZX E (zcV P) A "FrameMachine$Registers" b_G_levelMask 1 (some .int) 0 0) (s0 : ZS)  : ZJ E (zcV P) A 1 (zFi E (zcV P) A) 0 [(0, .ref (P.1 3))] [] s0 (f_G_levelMask s0) := by
  unfold f_G_levelMask
  refine zj_aload_n 1 0 X kd_G_levelMask_0 rfl rfl rfl ?_
  refine gf_G_18 4 X kd_G_levelMask_1 rfl ?_
  refine zj_sipush 7 1792 X kd_G_levelMask_4 ks_1792 rfl ?_
  refine zj_iand 8 X kd_G_levelMask_7 rfl ?_
  refine zj_bipush 10 8 X kd_G_levelMask_8 kb_8 rfl ?_
  refine zj_ishr 11 X kd_G_levelMask_10 rfl ?_
  exact zj_iret X kd_G_levelMask_11
theorem c_G_levelMask {l : Launch} {P : ZP} (hV : ZVok (zcV P)) (s0 : ZS)  {z : Int32 × ZS} (h : f_G_levelMask s0  = some z) : zMi l y_G_levelMask b_G_levelMask 1 (some .int) 0 0 (zcV P) s0 [.ref (P.1 3)] z :=
  zMi_of (by decide +kernel) rfl rfl (Nat.le_of_ble_eq_true rfl) hV (fun _ X => j_G_levelMask X s0 ) h
theorem kc_P_77 : zCV "FrameMachine$Processor" 77 y_G_levelMask b_G_levelMask 1 (some .int) 0 := ⟨⟨kw_486, kw_487, kw_488, kw_4, kw_489⟩, by decide +kernel, by decide +kernel, by decide +kernel⟩
theorem mc_P_77 {ρ : Type} {E : ZE} {P : ZP} {A : Nat → Prop} {cc : ByteArray} {nL : Nat} {ret : Option FieldType} {fr lo : Nat} {F : ρ → State → Prop} {pc : Nat} {L : List (Nat × Value)} {rest : List Value} {σ : ZS}  {K : Int32 × ZS → Option ρ} (q : Nat) (X : ZX E (zcV P) A "FrameMachine$Processor" cc nL ret fr lo) (d : decode cc pc = .ok (.invokevirtual 77, 3)) (hfr : 0 + 1 ≤ fr) (hlo : 8 + (1 + 11) + 0 ≤ lo) (hr : (rest.map fun v => v.category).sum ≤ 8) (hq : pc + 3 = q) (kk : ∀ p : Int32 × ZS, ZJ E (zcV P) A nL F q L (.int p.1 :: rest) p.2 (K p)) : ZJ E (zcV P) A nL F pc L (.ref (P.1 3) :: rest) σ ((f_G_levelMask σ ).bind K) :=
  zj_cVi q 3 3 (As := []) (rest := rest) X kc_P_77 hfr hlo (fun p h => c_G_levelMask (zx_v X) σ  h) rfl rfl rfl hr d hq kk
-- FrameMachine$Registers.has(I)Z
theorem kd_G_has_0 : decode b_G_has 0 = .ok (.aload_n 0, 1) := by decide +kernel
theorem kd_G_has_1 : decode b_G_has 1 = .ok (.getfield 18, 3) := by decide +kernel
theorem kd_G_has_4 : decode b_G_has 4 = .ok (.iload_n 1, 1) := by decide +kernel
theorem kd_G_has_5 : decode b_G_has 5 = .ok (.iand, 1) := by decide +kernel
theorem kd_G_has_6 : decode b_G_has 6 = .ok (.ifCond .eq 7, 3) := by decide +kernel
theorem kd_G_has_9 : decode b_G_has 9 = .ok (.iconst 1, 1) := by decide +kernel
theorem kd_G_has_10 : decode b_G_has 10 = .ok (.goto 4, 3) := by decide +kernel
theorem kd_G_has_13 : decode b_G_has 13 = .ok (.iconst 0, 1) := by decide +kernel
theorem kd_G_has_14 : decode b_G_has 14 = .ok (.ireturn, 1) := by decide +kernel
noncomputable def f_G_has (s0 : ZS) (x1 : Int32) : Option (Int32 × ZS) :=
  if ((s0 0 15) &&& x1) = 0 then
    some (0, s0)
  else
    some (1, s0)
theorem j_G_has {P : ZP} {E : ZE} {A : Nat → Prop} (X : ZX E (zcV P) A "FrameMachine$Registers" b_G_has 2 (some .boolean) 0 0) (s0 : ZS) (x1 : Int32) : ZJ E (zcV P) A 2 (zFi E (zcV P) A) 0 [(0, .ref (P.1 3)), (1, .int x1)] [] s0 (f_G_has s0 x1) := by
  unfold f_G_has
  refine zj_aload_n 1 0 X kd_G_has_0 rfl rfl rfl ?_
  refine gf_G_18 4 X kd_G_has_1 rfl ?_
  refine zj_iload_n 5 1 X kd_G_has_4 rfl rfl rfl ?_
  refine zj_iand 6 X kd_G_has_5 rfl ?_
  refine zj_if_eq 13 9 X kd_G_has_6 rfl rfl (fun _ => ?_) (fun _ => ?_)
  · refine zj_iconst 14 0 X kd_G_has_13 ki_0 rfl ?_
    exact zj_zret X kd_G_has_14 (Or.inl rfl)
  · refine zj_iconst 10 1 X kd_G_has_9 ki_1 rfl ?_
    refine zj_goto 14 X kd_G_has_10 rfl ?_
    exact zj_zret X kd_G_has_14 (Or.inr rfl)
theorem c_G_has {l : Launch} {P : ZP} (hV : ZVok (zcV P)) (s0 : ZS) (x1 : Int32) {z : Int32 × ZS} (h : f_G_has s0 x1 = some z) : zMi l y_G_has b_G_has 2 (some .boolean) 0 0 (zcV P) s0 [.ref (P.1 3), .int x1] z :=
  zMi_of (by decide +kernel) rfl rfl (Nat.le_of_ble_eq_true rfl) hV (fun _ X => j_G_has X s0 x1) h
theorem kc_A_40 : zCV "FrameMachine$Arithmetic" 40 y_G_has b_G_has 2 (some .boolean) 1 := ⟨⟨kw_662, kw_518, kw_519, kw_4, kw_520⟩, by decide +kernel, by decide +kernel, by decide +kernel⟩
theorem mc_A_40 {ρ : Type} {E : ZE} {P : ZP} {A : Nat → Prop} {cc : ByteArray} {nL : Nat} {ret : Option FieldType} {fr lo : Nat} {F : ρ → State → Prop} {pc : Nat} {L : List (Nat × Value)} {rest : List Value} {σ : ZS} {x1 : Int32} {K : Int32 × ZS → Option ρ} (q : Nat) (X : ZX E (zcV P) A "FrameMachine$Arithmetic" cc nL ret fr lo) (d : decode cc pc = .ok (.invokevirtual 40, 3)) (hfr : 0 + 1 ≤ fr) (hlo : 8 + (2 + 11) + 0 ≤ lo) (hr : (rest.map fun v => v.category).sum ≤ 8) (hq : pc + 3 = q) (kk : ∀ p : Int32 × ZS, ZJ E (zcV P) A nL F q L (.int p.1 :: rest) p.2 (K p)) : ZJ E (zcV P) A nL F pc L (.int x1 :: .ref (P.1 3) :: rest) σ ((f_G_has σ x1).bind K) :=
  zj_cVi q 3 3 (As := [.int x1]) (rest := rest) X kc_A_40 hfr hlo (fun p h => c_G_has (zx_v X) σ x1 h) rfl rfl rfl hr d hq kk
theorem kc_P_93 : zCV "FrameMachine$Processor" 93 y_G_has b_G_has 2 (some .boolean) 1 := ⟨⟨kw_517, kw_518, kw_519, kw_4, kw_520⟩, by decide +kernel, by decide +kernel, by decide +kernel⟩
theorem mc_P_93 {ρ : Type} {E : ZE} {P : ZP} {A : Nat → Prop} {cc : ByteArray} {nL : Nat} {ret : Option FieldType} {fr lo : Nat} {F : ρ → State → Prop} {pc : Nat} {L : List (Nat × Value)} {rest : List Value} {σ : ZS} {x1 : Int32} {K : Int32 × ZS → Option ρ} (q : Nat) (X : ZX E (zcV P) A "FrameMachine$Processor" cc nL ret fr lo) (d : decode cc pc = .ok (.invokevirtual 93, 3)) (hfr : 0 + 1 ≤ fr) (hlo : 8 + (2 + 11) + 0 ≤ lo) (hr : (rest.map fun v => v.category).sum ≤ 8) (hq : pc + 3 = q) (kk : ∀ p : Int32 × ZS, ZJ E (zcV P) A nL F q L (.int p.1 :: rest) p.2 (K p)) : ZJ E (zcV P) A nL F pc L (.int x1 :: .ref (P.1 3) :: rest) σ ((f_G_has σ x1).bind K) :=
  zj_cVi q 3 3 (As := [.int x1]) (rest := rest) X kc_P_93 hfr hlo (fun p h => c_G_has (zx_v X) σ x1 h) rfl rfl rfl hr d hq kk
theorem kc_G_33 : zCV "FrameMachine$Registers" 33 y_G_has b_G_has 2 (some .boolean) 1 := ⟨⟨kw_708, kw_518, kw_519, kw_4, kw_520⟩, by decide +kernel, by decide +kernel, by decide +kernel⟩
theorem mc_G_33 {ρ : Type} {E : ZE} {P : ZP} {A : Nat → Prop} {cc : ByteArray} {nL : Nat} {ret : Option FieldType} {fr lo : Nat} {F : ρ → State → Prop} {pc : Nat} {L : List (Nat × Value)} {rest : List Value} {σ : ZS} {x1 : Int32} {K : Int32 × ZS → Option ρ} (q : Nat) (X : ZX E (zcV P) A "FrameMachine$Registers" cc nL ret fr lo) (d : decode cc pc = .ok (.invokevirtual 33, 3)) (hfr : 0 + 1 ≤ fr) (hlo : 8 + (2 + 11) + 0 ≤ lo) (hr : (rest.map fun v => v.category).sum ≤ 8) (hq : pc + 3 = q) (kk : ∀ p : Int32 × ZS, ZJ E (zcV P) A nL F q L (.int p.1 :: rest) p.2 (K p)) : ZJ E (zcV P) A nL F pc L (.int x1 :: .ref (P.1 3) :: rest) σ ((f_G_has σ x1).bind K) :=
  zj_cVi q 3 3 (As := [.int x1]) (rest := rest) X kc_G_33 hfr hlo (fun p h => c_G_has (zx_v X) σ x1 h) rfl rfl rfl hr d hq kk
-- FrameMachine$Pointers.nextWord()I
theorem kd_Q_nextWord_0 : decode b_Q_nextWord 0 = .ok (.aload_n 0, 1) := by decide +kernel
theorem kd_Q_nextWord_1 : decode b_Q_nextWord 1 = .ok (.getfield 9, 3) := by decide +kernel
theorem kd_Q_nextWord_4 : decode b_Q_nextWord 4 = .ok (.aload_n 0, 1) := by decide +kernel
theorem kd_Q_nextWord_5 : decode b_Q_nextWord 5 = .ok (.getfield 15, 3) := by decide +kernel
theorem kd_Q_nextWord_8 : decode b_Q_nextWord 8 = .ok (.getfield 19, 3) := by decide +kernel
theorem kd_Q_nextWord_11 : decode b_Q_nextWord 11 = .ok (.iconst 1, 1) := by decide +kernel
theorem kd_Q_nextWord_12 : decode b_Q_nextWord 12 = .ok (.invokevirtual 25, 3) := by decide +kernel
theorem kd_Q_nextWord_15 : decode b_Q_nextWord 15 = .ok (.istore_n 1, 1) := by decide +kernel
theorem kd_Q_nextWord_16 : decode b_Q_nextWord 16 = .ok (.aload_n 0, 1) := by decide +kernel
theorem kd_Q_nextWord_17 : decode b_Q_nextWord 17 = .ok (.getfield 9, 3) := by decide +kernel
theorem kd_Q_nextWord_20 : decode b_Q_nextWord 20 = .ok (.getfield 31, 3) := by decide +kernel
theorem kd_Q_nextWord_23 : decode b_Q_nextWord 23 = .ok (.ifCond .ne 16, 3) := by decide +kernel
theorem kd_Q_nextWord_26 : decode b_Q_nextWord 26 = .ok (.aload_n 0, 1) := by decide +kernel
theorem kd_Q_nextWord_27 : decode b_Q_nextWord 27 = .ok (.getfield 15, 3) := by decide +kernel
theorem kd_Q_nextWord_30 : decode b_Q_nextWord 30 = .ok (.dup, 1) := by decide +kernel
theorem kd_Q_nextWord_31 : decode b_Q_nextWord 31 = .ok (.getfield 19, 3) := by decide +kernel
theorem kd_Q_nextWord_34 : decode b_Q_nextWord 34 = .ok (.iconst 2, 1) := by decide +kernel
theorem kd_Q_nextWord_35 : decode b_Q_nextWord 35 = .ok (.iadd, 1) := by decide +kernel
theorem kd_Q_nextWord_36 : decode b_Q_nextWord 36 = .ok (.putfield 19, 3) := by decide +kernel
theorem kd_Q_nextWord_39 : decode b_Q_nextWord 39 = .ok (.iload_n 1, 1) := by decide +kernel
theorem kd_Q_nextWord_40 : decode b_Q_nextWord 40 = .ok (.ireturn, 1) := by decide +kernel
noncomputable def f_Q_nextWord (s0 : ZS)  : Option (Int32 × ZS) :=
  (f_B_read s0 (s0 0 14) 1).bind fun p1 =>
  if (p1.2 0 10) = 0 then
    zs_nm (zs_up p1.2 0 14 ((p1.2 0 14) + 2)) fun s2 =>
    some (p1.1, s2)
  else
    some (p1.1, p1.2)
theorem j_Q_nextWord {P : ZP} {E : ZE} {A : Nat → Prop} (X : ZX E (zcV P) A "FrameMachine$Pointers" b_Q_nextWord 2 (some .int) 2 49) (s0 : ZS)  : ZJ E (zcV P) A 2 (zFi E (zcV P) A) 0 [(0, .ref (P.1 4))] [] s0 (f_Q_nextWord s0) := by
  unfold f_Q_nextWord
  refine zj_aload_n 1 0 X kd_Q_nextWord_0 rfl rfl rfl ?_
  refine gf_Q_9 4 X kd_Q_nextWord_1 rfl ?_
  refine zj_aload_n 5 0 X kd_Q_nextWord_4 rfl rfl rfl ?_
  refine gf_Q_15 8 X kd_Q_nextWord_5 rfl ?_
  refine gf_Q_19 11 X kd_Q_nextWord_8 rfl ?_
  refine zj_iconst 12 1 X kd_Q_nextWord_11 ki_1 rfl ?_
  refine mc_Q_25 15 X kd_Q_nextWord_12 (Nat.le_of_ble_eq_true rfl) (Nat.le_of_ble_eq_true rfl) (Nat.le_of_ble_eq_true rfl) rfl (fun p1 => ?_)
  refine zj_istore_n 16 [(1, .int p1.1), (0, .ref (P.1 4))] X kd_Q_nextWord_15 rfl (Nat.le_of_ble_eq_true rfl) rfl rfl ?_
  refine zj_aload_n 17 1 X kd_Q_nextWord_16 rfl rfl rfl ?_
  refine gf_Q_9 20 X kd_Q_nextWord_17 rfl ?_
  refine gf_Q_31 23 X kd_Q_nextWord_20 rfl ?_
  refine zj_if_ne 39 26 X kd_Q_nextWord_23 rfl rfl (fun _ => ?_) (fun _ => ?_)
  · refine zj_aload_n 27 1 X kd_Q_nextWord_26 rfl rfl rfl ?_
    refine gf_Q_15 30 X kd_Q_nextWord_27 rfl ?_
    refine zj_dup 31 X kd_Q_nextWord_30 rfl rfl ?_
    refine gf_Q_19 34 X kd_Q_nextWord_31 rfl ?_
    refine zj_iconst 35 2 X kd_Q_nextWord_34 ki_2 rfl ?_
    refine zj_iadd 36 X kd_Q_nextWord_35 rfl ?_
    refine pf_Q_19 39 X kd_Q_nextWord_36 rfl ?_
    refine zj_nms (fun s2 => ?_)
    refine zj_iload_n 40 0 X kd_Q_nextWord_39 rfl rfl rfl ?_
    exact zj_iret X kd_Q_nextWord_40
  · refine zj_iload_n 40 0 X kd_Q_nextWord_39 rfl rfl rfl ?_
    exact zj_iret X kd_Q_nextWord_40
theorem c_Q_nextWord {l : Launch} {P : ZP} (hV : ZVok (zcV P)) (s0 : ZS)  {z : Int32 × ZS} (h : f_Q_nextWord s0  = some z) : zMi l y_Q_nextWord b_Q_nextWord 2 (some .int) 2 49 (zcV P) s0 [.ref (P.1 4)] z :=
  zMi_of (by decide +kernel) rfl rfl (Nat.le_of_ble_eq_true rfl) hV (fun _ X => j_Q_nextWord X s0 ) h
theorem kc_O_57 : zCV "FrameMachine$Operand" 57 y_Q_nextWord b_Q_nextWord 2 (some .int) 0 := ⟨⟨kw_580, kw_526, kw_527, kw_5, kw_528⟩, by decide +kernel, by decide +kernel, by decide +kernel⟩
theorem mc_O_57 {ρ : Type} {E : ZE} {P : ZP} {A : Nat → Prop} {cc : ByteArray} {nL : Nat} {ret : Option FieldType} {fr lo : Nat} {F : ρ → State → Prop} {pc : Nat} {L : List (Nat × Value)} {rest : List Value} {σ : ZS}  {K : Int32 × ZS → Option ρ} (q : Nat) (X : ZX E (zcV P) A "FrameMachine$Operand" cc nL ret fr lo) (d : decode cc pc = .ok (.invokevirtual 57, 3)) (hfr : 2 + 1 ≤ fr) (hlo : 8 + (2 + 11) + 49 ≤ lo) (hr : (rest.map fun v => v.category).sum ≤ 8) (hq : pc + 3 = q) (kk : ∀ p : Int32 × ZS, ZJ E (zcV P) A nL F q L (.int p.1 :: rest) p.2 (K p)) : ZJ E (zcV P) A nL F pc L (.ref (P.1 4) :: rest) σ ((f_Q_nextWord σ ).bind K) :=
  zj_cVi q 4 4 (As := []) (rest := rest) X kc_O_57 hfr hlo (fun p h => c_Q_nextWord (zx_v X) σ  h) rfl rfl rfl hr d hq kk
theorem kc_Q_34 : zCV "FrameMachine$Pointers" 34 y_Q_nextWord b_Q_nextWord 2 (some .int) 0 := ⟨⟨kw_585, kw_526, kw_527, kw_5, kw_528⟩, by decide +kernel, by decide +kernel, by decide +kernel⟩
theorem mc_Q_34 {ρ : Type} {E : ZE} {P : ZP} {A : Nat → Prop} {cc : ByteArray} {nL : Nat} {ret : Option FieldType} {fr lo : Nat} {F : ρ → State → Prop} {pc : Nat} {L : List (Nat × Value)} {rest : List Value} {σ : ZS}  {K : Int32 × ZS → Option ρ} (q : Nat) (X : ZX E (zcV P) A "FrameMachine$Pointers" cc nL ret fr lo) (d : decode cc pc = .ok (.invokevirtual 34, 3)) (hfr : 2 + 1 ≤ fr) (hlo : 8 + (2 + 11) + 49 ≤ lo) (hr : (rest.map fun v => v.category).sum ≤ 8) (hq : pc + 3 = q) (kk : ∀ p : Int32 × ZS, ZJ E (zcV P) A nL F q L (.int p.1 :: rest) p.2 (K p)) : ZJ E (zcV P) A nL F pc L (.ref (P.1 4) :: rest) σ ((f_Q_nextWord σ ).bind K) :=
  zj_cVi q 4 4 (As := []) (rest := rest) X kc_Q_34 hfr hlo (fun p h => c_Q_nextWord (zx_v X) σ  h) rfl rfl rfl hr d hq kk
theorem kc_P_126 : zCV "FrameMachine$Processor" 126 y_Q_nextWord b_Q_nextWord 2 (some .int) 0 := ⟨⟨kw_525, kw_526, kw_527, kw_5, kw_528⟩, by decide +kernel, by decide +kernel, by decide +kernel⟩
theorem mc_P_126 {ρ : Type} {E : ZE} {P : ZP} {A : Nat → Prop} {cc : ByteArray} {nL : Nat} {ret : Option FieldType} {fr lo : Nat} {F : ρ → State → Prop} {pc : Nat} {L : List (Nat × Value)} {rest : List Value} {σ : ZS}  {K : Int32 × ZS → Option ρ} (q : Nat) (X : ZX E (zcV P) A "FrameMachine$Processor" cc nL ret fr lo) (d : decode cc pc = .ok (.invokevirtual 126, 3)) (hfr : 2 + 1 ≤ fr) (hlo : 8 + (2 + 11) + 49 ≤ lo) (hr : (rest.map fun v => v.category).sum ≤ 8) (hq : pc + 3 = q) (kk : ∀ p : Int32 × ZS, ZJ E (zcV P) A nL F q L (.int p.1 :: rest) p.2 (K p)) : ZJ E (zcV P) A nL F pc L (.ref (P.1 4) :: rest) σ ((f_Q_nextWord σ ).bind K) :=
  zj_cVi q 4 4 (As := []) (rest := rest) X kc_P_126 hfr hlo (fun p h => c_Q_nextWord (zx_v X) σ  h) rfl rfl rfl hr d hq kk
-- FrameMachine$Instruction.decode(I)V
theorem kd_I_decode_0 : decode b_I_decode 0 = .ok (.aload_n 0, 1) := by decide +kernel
theorem kd_I_decode_1 : decode b_I_decode 1 = .ok (.iload_n 1, 1) := by decide +kernel
theorem kd_I_decode_2 : decode b_I_decode 2 = .ok (.putfield 9, 3) := by decide +kernel
theorem kd_I_decode_5 : decode b_I_decode 5 = .ok (.aload_n 0, 1) := by decide +kernel
theorem kd_I_decode_6 : decode b_I_decode 6 = .ok (.iload_n 1, 1) := by decide +kernel
theorem kd_I_decode_7 : decode b_I_decode 7 = .ok (.bipush 11, 2) := by decide +kernel
theorem kd_I_decode_9 : decode b_I_decode 9 = .ok (.ishr, 1) := by decide +kernel
theorem kd_I_decode_10 : decode b_I_decode 10 = .ok (.bipush 31, 2) := by decide +kernel
theorem kd_I_decode_12 : decode b_I_decode 12 = .ok (.iand, 1) := by decide +kernel
theorem kd_I_decode_13 : decode b_I_decode 13 = .ok (.putfield 15, 3) := by decide +kernel
theorem kd_I_decode_16 : decode b_I_decode 16 = .ok (.aload_n 0, 1) := by decide +kernel
theorem kd_I_decode_17 : decode b_I_decode 17 = .ok (.iload_n 1, 1) := by decide +kernel
theorem kd_I_decode_18 : decode b_I_decode 18 = .ok (.bipush 9, 2) := by decide +kernel
theorem kd_I_decode_20 : decode b_I_decode 20 = .ok (.ishr, 1) := by decide +kernel
theorem kd_I_decode_21 : decode b_I_decode 21 = .ok (.iconst 3, 1) := by decide +kernel
theorem kd_I_decode_22 : decode b_I_decode 22 = .ok (.iand, 1) := by decide +kernel
theorem kd_I_decode_23 : decode b_I_decode 23 = .ok (.putfield 18, 3) := by decide +kernel
theorem kd_I_decode_26 : decode b_I_decode 26 = .ok (.aload_n 0, 1) := by decide +kernel
theorem kd_I_decode_27 : decode b_I_decode 27 = .ok (.iload_n 1, 1) := by decide +kernel
theorem kd_I_decode_28 : decode b_I_decode 28 = .ok (.bipush 6, 2) := by decide +kernel
theorem kd_I_decode_30 : decode b_I_decode 30 = .ok (.ishr, 1) := by decide +kernel
theorem kd_I_decode_31 : decode b_I_decode 31 = .ok (.bipush 7, 2) := by decide +kernel
theorem kd_I_decode_33 : decode b_I_decode 33 = .ok (.iand, 1) := by decide +kernel
theorem kd_I_decode_34 : decode b_I_decode 34 = .ok (.putfield 21, 3) := by decide +kernel
theorem kd_I_decode_37 : decode b_I_decode 37 = .ok (.aload_n 0, 1) := by decide +kernel
theorem kd_I_decode_38 : decode b_I_decode 38 = .ok (.iload_n 1, 1) := by decide +kernel
theorem kd_I_decode_39 : decode b_I_decode 39 = .ok (.iconst 3, 1) := by decide +kernel
theorem kd_I_decode_40 : decode b_I_decode 40 = .ok (.ishr, 1) := by decide +kernel
theorem kd_I_decode_41 : decode b_I_decode 41 = .ok (.bipush 7, 2) := by decide +kernel
theorem kd_I_decode_43 : decode b_I_decode 43 = .ok (.iand, 1) := by decide +kernel
theorem kd_I_decode_44 : decode b_I_decode 44 = .ok (.putfield 24, 3) := by decide +kernel
theorem kd_I_decode_47 : decode b_I_decode 47 = .ok (.aload_n 0, 1) := by decide +kernel
theorem kd_I_decode_48 : decode b_I_decode 48 = .ok (.iload_n 1, 1) := by decide +kernel
theorem kd_I_decode_49 : decode b_I_decode 49 = .ok (.bipush 7, 2) := by decide +kernel
theorem kd_I_decode_51 : decode b_I_decode 51 = .ok (.iand, 1) := by decide +kernel
theorem kd_I_decode_52 : decode b_I_decode 52 = .ok (.putfield 27, 3) := by decide +kernel
theorem kd_I_decode_55 : decode b_I_decode 55 = .ok (.return_, 1) := by decide +kernel
noncomputable def f_I_decode (s0 : ZS) (x1 : Int32) : Option (ZS) :=
  zs_nm (zs_up s0 0 23 x1) fun s1 =>
  zs_nm (zs_up s1 0 24 ((zo_shr x1 11) &&& 31)) fun s2 =>
  zs_nm (zs_up s2 0 25 ((zo_shr x1 9) &&& 3)) fun s3 =>
  zs_nm (zs_up s3 0 26 ((zo_shr x1 6) &&& 7)) fun s4 =>
  zs_nm (zs_up s4 0 27 ((zo_shr x1 3) &&& 7)) fun s5 =>
  zs_nm (zs_up s5 0 28 (x1 &&& 7)) fun s6 =>
  some s6
theorem j_I_decode {P : ZP} {E : ZE} {A : Nat → Prop} (X : ZX E (zcV P) A "FrameMachine$Instruction" b_I_decode 2 none 0 0) (s0 : ZS) (x1 : Int32) : ZJ E (zcV P) A 2 (zFv E (zcV P) A) 0 [(0, .ref (P.1 7)), (1, .int x1)] [] s0 (f_I_decode s0 x1) := by
  unfold f_I_decode
  refine zj_aload_n 1 0 X kd_I_decode_0 rfl rfl rfl ?_
  refine zj_iload_n 2 1 X kd_I_decode_1 rfl rfl rfl ?_
  refine pf_I_9 5 X kd_I_decode_2 rfl ?_
  refine zj_nms (fun s1 => ?_)
  refine zj_aload_n 6 0 X kd_I_decode_5 rfl rfl rfl ?_
  refine zj_iload_n 7 1 X kd_I_decode_6 rfl rfl rfl ?_
  refine zj_bipush 9 11 X kd_I_decode_7 kb_11 rfl ?_
  refine zj_ishr 10 X kd_I_decode_9 rfl ?_
  refine zj_bipush 12 31 X kd_I_decode_10 kb_31 rfl ?_
  refine zj_iand 13 X kd_I_decode_12 rfl ?_
  refine pf_I_15 16 X kd_I_decode_13 rfl ?_
  refine zj_nms (fun s2 => ?_)
  refine zj_aload_n 17 0 X kd_I_decode_16 rfl rfl rfl ?_
  refine zj_iload_n 18 1 X kd_I_decode_17 rfl rfl rfl ?_
  refine zj_bipush 20 9 X kd_I_decode_18 kb_9 rfl ?_
  refine zj_ishr 21 X kd_I_decode_20 rfl ?_
  refine zj_iconst 22 3 X kd_I_decode_21 ki_3 rfl ?_
  refine zj_iand 23 X kd_I_decode_22 rfl ?_
  refine pf_I_18 26 X kd_I_decode_23 rfl ?_
  refine zj_nms (fun s3 => ?_)
  refine zj_aload_n 27 0 X kd_I_decode_26 rfl rfl rfl ?_
  refine zj_iload_n 28 1 X kd_I_decode_27 rfl rfl rfl ?_
  refine zj_bipush 30 6 X kd_I_decode_28 kb_6 rfl ?_
  refine zj_ishr 31 X kd_I_decode_30 rfl ?_
  refine zj_bipush 33 7 X kd_I_decode_31 kb_7 rfl ?_
  refine zj_iand 34 X kd_I_decode_33 rfl ?_
  refine pf_I_21 37 X kd_I_decode_34 rfl ?_
  refine zj_nms (fun s4 => ?_)
  refine zj_aload_n 38 0 X kd_I_decode_37 rfl rfl rfl ?_
  refine zj_iload_n 39 1 X kd_I_decode_38 rfl rfl rfl ?_
  refine zj_iconst 40 3 X kd_I_decode_39 ki_3 rfl ?_
  refine zj_ishr 41 X kd_I_decode_40 rfl ?_
  refine zj_bipush 43 7 X kd_I_decode_41 kb_7 rfl ?_
  refine zj_iand 44 X kd_I_decode_43 rfl ?_
  refine pf_I_24 47 X kd_I_decode_44 rfl ?_
  refine zj_nms (fun s5 => ?_)
  refine zj_aload_n 48 0 X kd_I_decode_47 rfl rfl rfl ?_
  refine zj_iload_n 49 1 X kd_I_decode_48 rfl rfl rfl ?_
  refine zj_bipush 51 7 X kd_I_decode_49 kb_7 rfl ?_
  refine zj_iand 52 X kd_I_decode_51 rfl ?_
  refine pf_I_27 55 X kd_I_decode_52 rfl ?_
  refine zj_nms (fun s6 => ?_)
  exact zj_vret X kd_I_decode_55
theorem c_I_decode {l : Launch} {P : ZP} (hV : ZVok (zcV P)) (s0 : ZS) (x1 : Int32) {z : ZS} (h : f_I_decode s0 x1 = some z) : zMv l y_I_decode b_I_decode 2 none 0 0 (zcV P) s0 [.ref (P.1 7), .int x1] z :=
  zMv_of (by decide +kernel) rfl rfl (Nat.le_of_ble_eq_true rfl) hV (fun _ X => j_I_decode X s0 x1) h
theorem kc_P_131 : zCV "FrameMachine$Processor" 131 y_I_decode b_I_decode 2 none 1 := ⟨⟨kw_530, kw_531, kw_532, kw_8, kw_533⟩, by decide +kernel, by decide +kernel, by decide +kernel⟩
theorem mc_P_131 {ρ : Type} {E : ZE} {P : ZP} {A : Nat → Prop} {cc : ByteArray} {nL : Nat} {ret : Option FieldType} {fr lo : Nat} {F : ρ → State → Prop} {pc : Nat} {L : List (Nat × Value)} {rest : List Value} {σ : ZS} {x1 : Int32} {K : ZS → Option ρ} (q : Nat) (X : ZX E (zcV P) A "FrameMachine$Processor" cc nL ret fr lo) (d : decode cc pc = .ok (.invokevirtual 131, 3)) (hfr : 0 + 1 ≤ fr) (hlo : 8 + (2 + 11) + 0 ≤ lo) (hr : (rest.map fun v => v.category).sum ≤ 8) (hq : pc + 3 = q) (kk : ∀ p : ZS, ZJ E (zcV P) A nL F q L (rest) p (K p)) : ZJ E (zcV P) A nL F pc L (.int x1 :: .ref (P.1 7) :: rest) σ ((f_I_decode σ x1).bind K) :=
  zj_cVv q 7 7 (As := [.int x1]) (rest := rest) X kc_P_131 hfr hlo (fun p h => c_I_decode (zx_v X) σ x1 h) rfl rfl rfl hr d hq kk
-- FrameMachine$Instruction.condition()I
theorem kd_I_condition_0 : decode b_I_condition 0 = .ok (.aload_n 0, 1) := by decide +kernel
theorem kd_I_condition_1 : decode b_I_condition 1 = .ok (.getfield 18, 3) := by decide +kernel
theorem kd_I_condition_4 : decode b_I_condition 4 = .ok (.bipush 8, 2) := by decide +kernel
theorem kd_I_condition_6 : decode b_I_condition 6 = .ok (.imul, 1) := by decide +kernel
theorem kd_I_condition_7 : decode b_I_condition 7 = .ok (.aload_n 0, 1) := by decide +kernel
theorem kd_I_condition_8 : decode b_I_condition 8 = .ok (.getfield 21, 3) := by decide +kernel
theorem kd_I_condition_11 : decode b_I_condition 11 = .ok (.iadd, 1) := by decide +kernel
theorem kd_I_condition_12 : decode b_I_condition 12 = .ok (.ireturn, 1) := by decide +kernel
noncomputable def f_I_condition (s0 : ZS)  : Option (Int32 × ZS) :=
  some (((s0 0 25) * 8) + (s0 0 26), s0)
theorem j_I_condition {P : ZP} {E : ZE} {A : Nat → Prop} (X : ZX E (zcV P) A "FrameMachine$Instruction" b_I_condition 1 (some .int) 0 0) (s0 : ZS)  : ZJ E (zcV P) A 1 (zFi E (zcV P) A) 0 [(0, .ref (P.1 7))] [] s0 (f_I_condition s0) := by
  unfold f_I_condition
  refine zj_aload_n 1 0 X kd_I_condition_0 rfl rfl rfl ?_
  refine gf_I_18 4 X kd_I_condition_1 rfl ?_
  refine zj_bipush 6 8 X kd_I_condition_4 kb_8 rfl ?_
  refine zj_imul 7 X kd_I_condition_6 rfl ?_
  refine zj_aload_n 8 0 X kd_I_condition_7 rfl rfl rfl ?_
  refine gf_I_21 11 X kd_I_condition_8 rfl ?_
  refine zj_iadd 12 X kd_I_condition_11 rfl ?_
  exact zj_iret X kd_I_condition_12
theorem c_I_condition {l : Launch} {P : ZP} (hV : ZVok (zcV P)) (s0 : ZS)  {z : Int32 × ZS} (h : f_I_condition s0  = some z) : zMi l y_I_condition b_I_condition 1 (some .int) 0 0 (zcV P) s0 [.ref (P.1 7)] z :=
  zMi_of (by decide +kernel) rfl rfl (Nat.le_of_ble_eq_true rfl) hV (fun _ X => j_I_condition X s0 ) h
theorem kc_I_41 : zCV "FrameMachine$Instruction" 41 y_I_condition b_I_condition 1 (some .int) 0 := ⟨⟨kw_540, kw_541, kw_542, kw_8, kw_543⟩, by decide +kernel, by decide +kernel, by decide +kernel⟩
theorem mc_I_41 {ρ : Type} {E : ZE} {P : ZP} {A : Nat → Prop} {cc : ByteArray} {nL : Nat} {ret : Option FieldType} {fr lo : Nat} {F : ρ → State → Prop} {pc : Nat} {L : List (Nat × Value)} {rest : List Value} {σ : ZS}  {K : Int32 × ZS → Option ρ} (q : Nat) (X : ZX E (zcV P) A "FrameMachine$Instruction" cc nL ret fr lo) (d : decode cc pc = .ok (.invokevirtual 41, 3)) (hfr : 0 + 1 ≤ fr) (hlo : 8 + (1 + 11) + 0 ≤ lo) (hr : (rest.map fun v => v.category).sum ≤ 8) (hq : pc + 3 = q) (kk : ∀ p : Int32 × ZS, ZJ E (zcV P) A nL F q L (.int p.1 :: rest) p.2 (K p)) : ZJ E (zcV P) A nL F pc L (.ref (P.1 7) :: rest) σ ((f_I_condition σ ).bind K) :=
  zj_cVi q 7 7 (As := []) (rest := rest) X kc_I_41 hfr hlo (fun p h => c_I_condition (zx_v X) σ  h) rfl rfl rfl hr d hq kk
theorem kc_P_258 : zCV "FrameMachine$Processor" 258 y_I_condition b_I_condition 1 (some .int) 0 := ⟨⟨kw_698, kw_541, kw_542, kw_8, kw_543⟩, by decide +kernel, by decide +kernel, by decide +kernel⟩
theorem mc_P_258 {ρ : Type} {E : ZE} {P : ZP} {A : Nat → Prop} {cc : ByteArray} {nL : Nat} {ret : Option FieldType} {fr lo : Nat} {F : ρ → State → Prop} {pc : Nat} {L : List (Nat × Value)} {rest : List Value} {σ : ZS}  {K : Int32 × ZS → Option ρ} (q : Nat) (X : ZX E (zcV P) A "FrameMachine$Processor" cc nL ret fr lo) (d : decode cc pc = .ok (.invokevirtual 258, 3)) (hfr : 0 + 1 ≤ fr) (hlo : 8 + (1 + 11) + 0 ≤ lo) (hr : (rest.map fun v => v.category).sum ≤ 8) (hq : pc + 3 = q) (kk : ∀ p : Int32 × ZS, ZJ E (zcV P) A nL F q L (.int p.1 :: rest) p.2 (K p)) : ZJ E (zcV P) A nL F pc L (.ref (P.1 7) :: rest) σ ((f_I_condition σ ).bind K) :=
  zj_cVi q 7 7 (As := []) (rest := rest) X kc_P_258 hfr hlo (fun p h => c_I_condition (zx_v X) σ  h) rfl rfl rfl hr d hq kk
-- FrameMachine$Instruction.hasOperand()Z
theorem kd_I_hasOperand_0 : decode b_I_hasOperand 0 = .ok (.getstatic 30, 3) := by decide +kernel
theorem kd_I_hasOperand_3 : decode b_I_hasOperand 3 = .ok (.aload_n 0, 1) := by decide +kernel
theorem kd_I_hasOperand_4 : decode b_I_hasOperand 4 = .ok (.getfield 15, 3) := by decide +kernel
theorem kd_I_hasOperand_7 : decode b_I_hasOperand 7 = .ok (.bipush 31, 2) := by decide +kernel
theorem kd_I_hasOperand_9 : decode b_I_hasOperand 9 = .ok (.iand, 1) := by decide +kernel
theorem kd_I_hasOperand_10 : decode b_I_hasOperand 10 = .ok (.iaload, 1) := by decide +kernel
theorem kd_I_hasOperand_11 : decode b_I_hasOperand 11 = .ok (.ifCond .eq 7, 3) := by decide +kernel
theorem kd_I_hasOperand_14 : decode b_I_hasOperand 14 = .ok (.iconst 1, 1) := by decide +kernel
theorem kd_I_hasOperand_15 : decode b_I_hasOperand 15 = .ok (.goto 4, 3) := by decide +kernel
theorem kd_I_hasOperand_18 : decode b_I_hasOperand 18 = .ok (.iconst 0, 1) := by decide +kernel
theorem kd_I_hasOperand_19 : decode b_I_hasOperand 19 = .ok (.ireturn, 1) := by decide +kernel
noncomputable def f_I_hasOperand (s0 : ZS)  : Option (Int32 × ZS) :=
  zs_nm ((s0 0 24) &&& 31) fun v1 =>
  if v1 < 0 ∨ 32 ≤ v1.toNatClampNeg then none else
  if (tb_KINDS v1.toNatClampNeg) = 0 then
    some (0, s0)
  else
    some (1, s0)
theorem j_I_hasOperand {P : ZP} {E : ZE} {A : Nat → Prop} (X : ZX E (zcV P) A "FrameMachine$Instruction" b_I_hasOperand 1 (some .boolean) 0 0) (s0 : ZS)  : ZJ E (zcV P) A 1 (zFi E (zcV P) A) 0 [(0, .ref (P.1 7))] [] s0 (f_I_hasOperand s0) := by
  unfold f_I_hasOperand
  refine gs_I_30 3 X kd_I_hasOperand_0 rfl ?_
  refine zj_aload_n 4 0 X kd_I_hasOperand_3 rfl rfl rfl ?_
  refine gf_I_15 7 X kd_I_hasOperand_4 rfl ?_
  refine zj_bipush 9 31 X kd_I_hasOperand_7 kb_31 rfl ?_
  refine zj_iand 10 X kd_I_hasOperand_9 rfl ?_
  refine zj_nmi (fun v1 => ?_)
  refine zj_ng (fun hg => ?_)
  refine at_KINDS 11 X kd_I_hasOperand_10 hg rfl ?_
  refine zj_if_eq 18 14 X kd_I_hasOperand_11 rfl rfl (fun _ => ?_) (fun _ => ?_)
  · refine zj_iconst 19 0 X kd_I_hasOperand_18 ki_0 rfl ?_
    exact zj_zret X kd_I_hasOperand_19 (Or.inl rfl)
  · refine zj_iconst 15 1 X kd_I_hasOperand_14 ki_1 rfl ?_
    refine zj_goto 19 X kd_I_hasOperand_15 rfl ?_
    exact zj_zret X kd_I_hasOperand_19 (Or.inr rfl)
theorem c_I_hasOperand {l : Launch} {P : ZP} (hV : ZVok (zcV P)) (s0 : ZS)  {z : Int32 × ZS} (h : f_I_hasOperand s0  = some z) : zMi l y_I_hasOperand b_I_hasOperand 1 (some .boolean) 0 0 (zcV P) s0 [.ref (P.1 7)] z :=
  zMi_of (by decide +kernel) rfl rfl (Nat.le_of_ble_eq_true rfl) hV (fun _ X => j_I_hasOperand X s0 ) h
theorem kc_I_34 : zCV "FrameMachine$Instruction" 34 y_I_hasOperand b_I_hasOperand 1 (some .boolean) 0 := ⟨⟨kw_544, kw_545, kw_546, kw_8, kw_547⟩, by decide +kernel, by decide +kernel, by decide +kernel⟩
theorem mc_I_34 {ρ : Type} {E : ZE} {P : ZP} {A : Nat → Prop} {cc : ByteArray} {nL : Nat} {ret : Option FieldType} {fr lo : Nat} {F : ρ → State → Prop} {pc : Nat} {L : List (Nat × Value)} {rest : List Value} {σ : ZS}  {K : Int32 × ZS → Option ρ} (q : Nat) (X : ZX E (zcV P) A "FrameMachine$Instruction" cc nL ret fr lo) (d : decode cc pc = .ok (.invokevirtual 34, 3)) (hfr : 0 + 1 ≤ fr) (hlo : 8 + (1 + 11) + 0 ≤ lo) (hr : (rest.map fun v => v.category).sum ≤ 8) (hq : pc + 3 = q) (kk : ∀ p : Int32 × ZS, ZJ E (zcV P) A nL F q L (.int p.1 :: rest) p.2 (K p)) : ZJ E (zcV P) A nL F pc L (.ref (P.1 7) :: rest) σ ((f_I_hasOperand σ ).bind K) :=
  zj_cVi q 7 7 (As := []) (rest := rest) X kc_I_34 hfr hlo (fun p h => c_I_hasOperand (zx_v X) σ  h) rfl rfl rfl hr d hq kk
theorem kc_P_104 : zCV "FrameMachine$Processor" 104 y_I_hasOperand b_I_hasOperand 1 (some .boolean) 0 := ⟨⟨kw_566, kw_545, kw_546, kw_8, kw_547⟩, by decide +kernel, by decide +kernel, by decide +kernel⟩
theorem mc_P_104 {ρ : Type} {E : ZE} {P : ZP} {A : Nat → Prop} {cc : ByteArray} {nL : Nat} {ret : Option FieldType} {fr lo : Nat} {F : ρ → State → Prop} {pc : Nat} {L : List (Nat × Value)} {rest : List Value} {σ : ZS}  {K : Int32 × ZS → Option ρ} (q : Nat) (X : ZX E (zcV P) A "FrameMachine$Processor" cc nL ret fr lo) (d : decode cc pc = .ok (.invokevirtual 104, 3)) (hfr : 0 + 1 ≤ fr) (hlo : 8 + (1 + 11) + 0 ≤ lo) (hr : (rest.map fun v => v.category).sum ≤ 8) (hq : pc + 3 = q) (kk : ∀ p : Int32 × ZS, ZJ E (zcV P) A nL F q L (.int p.1 :: rest) p.2 (K p)) : ZJ E (zcV P) A nL F pc L (.ref (P.1 7) :: rest) σ ((f_I_hasOperand σ ).bind K) :=
  zj_cVi q 7 7 (As := []) (rest := rest) X kc_P_104 hfr hlo (fun p h => c_I_hasOperand (zx_v X) σ  h) rfl rfl rfl hr d hq kk
-- FrameMachine$Instruction.kind()I
theorem kd_I_kind_0 : decode b_I_kind 0 = .ok (.getstatic 30, 3) := by decide +kernel
theorem kd_I_kind_3 : decode b_I_kind 3 = .ok (.aload_n 0, 1) := by decide +kernel
theorem kd_I_kind_4 : decode b_I_kind 4 = .ok (.getfield 15, 3) := by decide +kernel
theorem kd_I_kind_7 : decode b_I_kind 7 = .ok (.bipush 31, 2) := by decide +kernel
theorem kd_I_kind_9 : decode b_I_kind 9 = .ok (.iand, 1) := by decide +kernel
theorem kd_I_kind_10 : decode b_I_kind 10 = .ok (.iaload, 1) := by decide +kernel
theorem kd_I_kind_11 : decode b_I_kind 11 = .ok (.istore_n 1, 1) := by decide +kernel
theorem kd_I_kind_12 : decode b_I_kind 12 = .ok (.aload_n 0, 1) := by decide +kernel
theorem kd_I_kind_13 : decode b_I_kind 13 = .ok (.getfield 18, 3) := by decide +kernel
theorem kd_I_kind_16 : decode b_I_kind 16 = .ok (.ifCond .ne 16, 3) := by decide +kernel
theorem kd_I_kind_19 : decode b_I_kind 19 = .ok (.iload_n 1, 1) := by decide +kernel
theorem kd_I_kind_20 : decode b_I_kind 20 = .ok (.sipush 1023, 3) := by decide +kernel
theorem kd_I_kind_23 : decode b_I_kind 23 = .ok (.if_icmp .ne 9, 3) := by decide +kernel
theorem kd_I_kind_26 : decode b_I_kind 26 = .ok (.sipush 1021, 3) := by decide +kernel
theorem kd_I_kind_29 : decode b_I_kind 29 = .ok (.goto 4, 3) := by decide +kernel
theorem kd_I_kind_32 : decode b_I_kind 32 = .ok (.iload_n 1, 1) := by decide +kernel
theorem kd_I_kind_33 : decode b_I_kind 33 = .ok (.ireturn, 1) := by decide +kernel
noncomputable def f_I_kind (s0 : ZS)  : Option (Int32 × ZS) :=
  zs_nm ((s0 0 24) &&& 31) fun v1 =>
  if v1 < 0 ∨ 32 ≤ v1.toNatClampNeg then none else
  zs_nm (tb_KINDS v1.toNatClampNeg) fun v2 =>
  if (s0 0 25) = 0 then
    if v2 = 1023 then
      some (1021, s0)
    else
      some (v2, s0)
  else
    some (v2, s0)
theorem j_I_kind {P : ZP} {E : ZE} {A : Nat → Prop} (X : ZX E (zcV P) A "FrameMachine$Instruction" b_I_kind 2 (some .int) 0 0) (s0 : ZS)  : ZJ E (zcV P) A 2 (zFi E (zcV P) A) 0 [(0, .ref (P.1 7))] [] s0 (f_I_kind s0) := by
  unfold f_I_kind
  refine gs_I_30 3 X kd_I_kind_0 rfl ?_
  refine zj_aload_n 4 0 X kd_I_kind_3 rfl rfl rfl ?_
  refine gf_I_15 7 X kd_I_kind_4 rfl ?_
  refine zj_bipush 9 31 X kd_I_kind_7 kb_31 rfl ?_
  refine zj_iand 10 X kd_I_kind_9 rfl ?_
  refine zj_nmi (fun v1 => ?_)
  refine zj_ng (fun hg => ?_)
  refine at_KINDS 11 X kd_I_kind_10 hg rfl ?_
  refine zj_nmi (fun v2 => ?_)
  refine zj_istore_n 12 [(1, .int v2), (0, .ref (P.1 7))] X kd_I_kind_11 rfl (Nat.le_of_ble_eq_true rfl) rfl rfl ?_
  refine zj_aload_n 13 1 X kd_I_kind_12 rfl rfl rfl ?_
  refine gf_I_18 16 X kd_I_kind_13 rfl ?_
  refine zj_if_ne 32 19 X kd_I_kind_16 rfl rfl (fun _ => ?_) (fun _ => ?_)
  · refine zj_iload_n 20 0 X kd_I_kind_19 rfl rfl rfl ?_
    refine zj_sipush 23 1023 X kd_I_kind_20 ks_1023 rfl ?_
    refine zj_icmp_ne 32 26 X kd_I_kind_23 rfl rfl (fun _ => ?_) (fun _ => ?_)
    · refine zj_sipush 29 1021 X kd_I_kind_26 ks_1021 rfl ?_
      refine zj_goto 33 X kd_I_kind_29 rfl ?_
      exact zj_iret X kd_I_kind_33
    · refine zj_iload_n 33 0 X kd_I_kind_32 rfl rfl rfl ?_
      exact zj_iret X kd_I_kind_33
  · refine zj_iload_n 33 0 X kd_I_kind_32 rfl rfl rfl ?_
    exact zj_iret X kd_I_kind_33
theorem c_I_kind {l : Launch} {P : ZP} (hV : ZVok (zcV P)) (s0 : ZS)  {z : Int32 × ZS} (h : f_I_kind s0  = some z) : zMi l y_I_kind b_I_kind 2 (some .int) 0 0 (zcV P) s0 [.ref (P.1 7)] z :=
  zMi_of (by decide +kernel) rfl rfl (Nat.le_of_ble_eq_true rfl) hV (fun _ X => j_I_kind X s0 ) h
theorem kc_I_45 : zCV "FrameMachine$Instruction" 45 y_I_kind b_I_kind 2 (some .int) 0 := ⟨⟨kw_550, kw_552, ksel_7, kw_8, kw_553⟩, by decide +kernel, by decide +kernel, by decide +kernel⟩
theorem mc_I_45 {ρ : Type} {E : ZE} {P : ZP} {A : Nat → Prop} {cc : ByteArray} {nL : Nat} {ret : Option FieldType} {fr lo : Nat} {F : ρ → State → Prop} {pc : Nat} {L : List (Nat × Value)} {rest : List Value} {σ : ZS}  {K : Int32 × ZS → Option ρ} (q : Nat) (X : ZX E (zcV P) A "FrameMachine$Instruction" cc nL ret fr lo) (d : decode cc pc = .ok (.invokevirtual 45, 3)) (hfr : 0 + 1 ≤ fr) (hlo : 8 + (2 + 11) + 0 ≤ lo) (hr : (rest.map fun v => v.category).sum ≤ 8) (hq : pc + 3 = q) (kk : ∀ p : Int32 × ZS, ZJ E (zcV P) A nL F q L (.int p.1 :: rest) p.2 (K p)) : ZJ E (zcV P) A nL F pc L (.ref (P.1 7) :: rest) σ ((f_I_kind σ ).bind K) :=
  zj_cVi q 7 7 (As := []) (rest := rest) X kc_I_45 hfr hlo (fun p h => c_I_kind (zx_v X) σ  h) rfl rfl rfl hr d hq kk
