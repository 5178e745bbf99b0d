-- FrameMachine.isNoWordOfMemory(I)Z
theorem kd_F_isNoWordOfMemory_0 : decode b_F_isNoWordOfMemory 0 = .ok (.iload_n 0, 1) := by decide +kernel
theorem kd_F_isNoWordOfMemory_1 : decode b_F_isNoWordOfMemory 1 = .ok (.iconst 1, 1) := by decide +kernel
theorem kd_F_isNoWordOfMemory_2 : decode b_F_isNoWordOfMemory 2 = .ok (.iand, 1) := by decide +kernel
theorem kd_F_isNoWordOfMemory_3 : decode b_F_isNoWordOfMemory 3 = .ok (.ifCond .ne 14, 3) := by decide +kernel
theorem kd_F_isNoWordOfMemory_6 : decode b_F_isNoWordOfMemory 6 = .ok (.iload_n 0, 1) := by decide +kernel
theorem kd_F_isNoWordOfMemory_7 : decode b_F_isNoWordOfMemory 7 = .ok (.ifCond .lt 10, 3) := by decide +kernel
theorem kd_F_isNoWordOfMemory_10 : decode b_F_isNoWordOfMemory 10 = .ok (.iload_n 0, 1) := by decide +kernel
theorem kd_F_isNoWordOfMemory_11 : decode b_F_isNoWordOfMemory 11 = .ok (.sipush 1022, 3) := by decide +kernel
theorem kd_F_isNoWordOfMemory_14 : decode b_F_isNoWordOfMemory 14 = .ok (.if_icmp .le 7, 3) := by decide +kernel
theorem kd_F_isNoWordOfMemory_17 : decode b_F_isNoWordOfMemory 17 = .ok (.iconst 1, 1) := by decide +kernel
theorem kd_F_isNoWordOfMemory_18 : decode b_F_isNoWordOfMemory 18 = .ok (.goto 4, 3) := by decide +kernel
theorem kd_F_isNoWordOfMemory_21 : decode b_F_isNoWordOfMemory 21 = .ok (.iconst 0, 1) := by decide +kernel
theorem kd_F_isNoWordOfMemory_22 : decode b_F_isNoWordOfMemory 22 = .ok (.ireturn, 1) := by decide +kernel
noncomputable def f_F_isNoWordOfMemory_17 (s0 : ZS)  : Option (Int32 × ZS) :=
  some (1, s0)
noncomputable def f_F_isNoWordOfMemory (s0 : ZS) (x1 : Int32) : Option (Int32 × ZS) :=
  if (x1 &&& 1) = 0 then
    if x1 < 0 then
      f_F_isNoWordOfMemory_17 s0
    else
      if x1 ≤ 1022 then
        some (0, s0)
      else
        f_F_isNoWordOfMemory_17 s0
  else
    f_F_isNoWordOfMemory_17 s0
theorem j_F_isNoWordOfMemory_17 {P : ZP} {E : ZE} {A : Nat → Prop} (X : ZX E (zcV P) A "FrameMachine" b_F_isNoWordOfMemory 1 (some .boolean) 0 0) (s0 : ZS)  : ZJ E (zcV P) A 1 (zFi E (zcV P) A) 17 [] [] s0 (f_F_isNoWordOfMemory_17 s0) := by
  unfold f_F_isNoWordOfMemory_17
  refine zj_iconst 18 1 X kd_F_isNoWordOfMemory_17 ki_1 rfl ?_
  refine zj_goto 22 X kd_F_isNoWordOfMemory_18 rfl ?_
  exact zj_zret X kd_F_isNoWordOfMemory_22 (Or.inr rfl)
theorem j_F_isNoWordOfMemory {P : ZP} {E : ZE} {A : Nat → Prop} (X : ZX E (zcV P) A "FrameMachine" b_F_isNoWordOfMemory 1 (some .boolean) 0 0) (s0 : ZS) (x1 : Int32) : ZJ E (zcV P) A 1 (zFi E (zcV P) A) 0 [(0, .int x1)] [] s0 (f_F_isNoWordOfMemory s0 x1) := by
  unfold f_F_isNoWordOfMemory
  refine zj_iload_n 1 0 X kd_F_isNoWordOfMemory_0 rfl rfl rfl ?_
  refine zj_iconst 2 1 X kd_F_isNoWordOfMemory_1 ki_1 rfl ?_
  refine zj_iand 3 X kd_F_isNoWordOfMemory_2 rfl ?_
  refine zj_if_ne 17 6 X kd_F_isNoWordOfMemory_3 rfl rfl (fun _ => ?_) (fun _ => ?_)
  · refine zj_iload_n 7 0 X kd_F_isNoWordOfMemory_6 rfl rfl rfl ?_
    refine zj_if_lt 17 10 X kd_F_isNoWordOfMemory_7 rfl rfl (fun _ => ?_) (fun _ => ?_)
    · refine zj_loc [] (L2 := []) rfl ?_
      exact j_F_isNoWordOfMemory_17 X s0
    · refine zj_iload_n 11 0 X kd_F_isNoWordOfMemory_10 rfl rfl rfl ?_
      refine zj_sipush 14 1022 X kd_F_isNoWordOfMemory_11 ks_1022 rfl ?_
      refine zj_icmp_le 21 17 X kd_F_isNoWordOfMemory_14 rfl rfl (fun _ => ?_) (fun _ => ?_)
      · refine zj_iconst 22 0 X kd_F_isNoWordOfMemory_21 ki_0 rfl ?_
        exact zj_zret X kd_F_isNoWordOfMemory_22 (Or.inl rfl)
      · refine zj_loc [] (L2 := []) rfl ?_
        exact j_F_isNoWordOfMemory_17 X s0
  · refine zj_loc [] (L2 := []) rfl ?_
    exact j_F_isNoWordOfMemory_17 X s0
theorem c_F_isNoWordOfMemory {l : Launch} {P : ZP} (hV : ZVok (zcV P)) (s0 : ZS) (x1 : Int32) {z : Int32 × ZS} (h : f_F_isNoWordOfMemory s0 x1 = some z) : zMi l y_F_isNoWordOfMemory b_F_isNoWordOfMemory 1 (some .boolean) 0 0 (zcV P) s0 [.int x1] z :=
  zMi_of (by decide +kernel) rfl rfl (Nat.le_of_ble_eq_true rfl) hV (fun _ X => j_F_isNoWordOfMemory X s0 x1) h
theorem kc_F_55 : zCS "FrameMachine" 55 y_F_isNoWordOfMemory b_F_isNoWordOfMemory 1 (some .boolean) 1 := ⟨⟨kw_361, kw_362, kw_1, kw_363⟩, by decide +kernel, by decide +kernel, by decide +kernel⟩
theorem mc_F_55 {ρ : Type} {E : ZE} {P : ZP} {A : Nat → Prop} {cc : ByteArray} {nL : Nat} {ret : Option FieldType} {fr lo : Nat} {F : ρ → State → Prop} {pc : Nat} {L : List (Nat × Value)} {rest : List Value} {σ : ZS} {x1 : Int32} {K : Int32 × ZS → Option ρ} (q : Nat) (X : ZX E (zcV P) A "FrameMachine" cc nL ret fr lo) (d : decode cc pc = .ok (.invokestatic 55, 3)) (hfr : 0 + 1 ≤ fr) (hlo : 8 + (1 + 11) + 0 ≤ lo) (hr : (rest.map fun v => v.category).sum ≤ 8) (hq : pc + 3 = q) (kk : ∀ p : Int32 × ZS, ZJ E (zcV P) A nL F q L (.int p.1 :: rest) p.2 (K p)) : ZJ E (zcV P) A nL F pc L (.int x1 :: rest) σ ((f_F_isNoWordOfMemory σ x1).bind K) :=
  zj_cSi q (As := [.int x1]) (rest := rest) X kc_F_55 hfr hlo (fun p h => c_F_isNoWordOfMemory (zx_v X) σ x1 h) rfl hr d hq kk
-- FrameMachine$Bus.fails(IIZ)Z
theorem kd_B_fails_0 : decode b_B_fails 0 = .ok (.iload_n 1, 1) := by decide +kernel
theorem kd_B_fails_1 : decode b_B_fails 1 = .ok (.ifCond .lt 18, 3) := by decide +kernel
theorem kd_B_fails_4 : decode b_B_fails 4 = .ok (.iload_n 1, 1) := by decide +kernel
theorem kd_B_fails_5 : decode b_B_fails 5 = .ok (.sipush 1024, 3) := by decide +kernel
theorem kd_B_fails_8 : decode b_B_fails 8 = .ok (.iconst 1, 1) := by decide +kernel
theorem kd_B_fails_9 : decode b_B_fails 9 = .ok (.iload_n 2, 1) := by decide +kernel
theorem kd_B_fails_10 : decode b_B_fails 10 = .ok (.ishl, 1) := by decide +kernel
theorem kd_B_fails_11 : decode b_B_fails 11 = .ok (.isub, 1) := by decide +kernel
theorem kd_B_fails_12 : decode b_B_fails 12 = .ok (.if_icmp .gt 7, 3) := by decide +kernel
theorem kd_B_fails_15 : decode b_B_fails 15 = .ok (.iconst 1, 1) := by decide +kernel
theorem kd_B_fails_16 : decode b_B_fails 16 = .ok (.goto 4, 3) := by decide +kernel
theorem kd_B_fails_19 : decode b_B_fails 19 = .ok (.iconst 0, 1) := by decide +kernel
theorem kd_B_fails_20 : decode b_B_fails 20 = .ok (.istore 4, 2) := by decide +kernel
theorem kd_B_fails_22 : decode b_B_fails 22 = .ok (.iload_n 2, 1) := by decide +kernel
theorem kd_B_fails_23 : decode b_B_fails 23 = .ok (.ifCond .ne 19, 3) := by decide +kernel
theorem kd_B_fails_26 : decode b_B_fails 26 = .ok (.iload_n 1, 1) := by decide +kernel
theorem kd_B_fails_27 : decode b_B_fails 27 = .ok (.ldc 33, 2) := by decide +kernel
theorem kd_B_fails_29 : decode b_B_fails 29 = .ok (.if_icmp .lt 13, 3) := by decide +kernel
theorem kd_B_fails_32 : decode b_B_fails 32 = .ok (.iload_n 1, 1) := by decide +kernel
theorem kd_B_fails_33 : decode b_B_fails 33 = .ok (.ldc 34, 2) := by decide +kernel
theorem kd_B_fails_35 : decode b_B_fails 35 = .ok (.if_icmp .gt 7, 3) := by decide +kernel
theorem kd_B_fails_38 : decode b_B_fails 38 = .ok (.iconst 1, 1) := by decide +kernel
theorem kd_B_fails_39 : decode b_B_fails 39 = .ok (.goto 4, 3) := by decide +kernel
theorem kd_B_fails_42 : decode b_B_fails 42 = .ok (.iconst 0, 1) := by decide +kernel
theorem kd_B_fails_43 : decode b_B_fails 43 = .ok (.istore 5, 2) := by decide +kernel
theorem kd_B_fails_45 : decode b_B_fails 45 = .ok (.iload_n 2, 1) := by decide +kernel
theorem kd_B_fails_46 : decode b_B_fails 46 = .ok (.ifCond .eq 17, 3) := by decide +kernel
theorem kd_B_fails_49 : decode b_B_fails 49 = .ok (.iload_n 1, 1) := by decide +kernel
theorem kd_B_fails_50 : decode b_B_fails 50 = .ok (.iconst 1, 1) := by decide +kernel
theorem kd_B_fails_51 : decode b_B_fails 51 = .ok (.iand, 1) := by decide +kernel
theorem kd_B_fails_52 : decode b_B_fails 52 = .ok (.ifCond .eq 11, 3) := by decide +kernel
theorem kd_B_fails_55 : decode b_B_fails 55 = .ok (.aload_n 0, 1) := by decide +kernel
theorem kd_B_fails_56 : decode b_B_fails 56 = .ok (.iconst 3, 1) := by decide +kernel
theorem kd_B_fails_57 : decode b_B_fails 57 = .ok (.putfield 35, 3) := by decide +kernel
theorem kd_B_fails_60 : decode b_B_fails 60 = .ok (.goto 23, 3) := by decide +kernel
theorem kd_B_fails_63 : decode b_B_fails 63 = .ok (.iload 4, 2) := by decide +kernel
theorem kd_B_fails_65 : decode b_B_fails 65 = .ok (.ifCond .ne 16, 3) := by decide +kernel
theorem kd_B_fails_68 : decode b_B_fails 68 = .ok (.iload 5, 2) := by decide +kernel
theorem kd_B_fails_70 : decode b_B_fails 70 = .ok (.ifCond .ne 11, 3) := by decide +kernel
theorem kd_B_fails_73 : decode b_B_fails 73 = .ok (.aload_n 0, 1) := by decide +kernel
theorem kd_B_fails_74 : decode b_B_fails 74 = .ok (.iconst 2, 1) := by decide +kernel
theorem kd_B_fails_75 : decode b_B_fails 75 = .ok (.putfield 35, 3) := by decide +kernel
theorem kd_B_fails_78 : decode b_B_fails 78 = .ok (.goto 5, 3) := by decide +kernel
theorem kd_B_fails_81 : decode b_B_fails 81 = .ok (.iconst 0, 1) := by decide +kernel
theorem kd_B_fails_82 : decode b_B_fails 82 = .ok (.ireturn, 1) := by decide +kernel
theorem kd_B_fails_83 : decode b_B_fails 83 = .ok (.aload_n 0, 1) := by decide +kernel
theorem kd_B_fails_84 : decode b_B_fails 84 = .ok (.iload_n 1, 1) := by decide +kernel
theorem kd_B_fails_85 : decode b_B_fails 85 = .ok (.putfield 39, 3) := by decide +kernel
theorem kd_B_fails_88 : decode b_B_fails 88 = .ok (.aload_n 0, 1) := by decide +kernel
theorem kd_B_fails_89 : decode b_B_fails 89 = .ok (.iload_n 3, 1) := by decide +kernel
theorem kd_B_fails_90 : decode b_B_fails 90 = .ok (.putfield 42, 3) := by decide +kernel
theorem kd_B_fails_93 : decode b_B_fails 93 = .ok (.iconst 1, 1) := by decide +kernel
theorem kd_B_fails_94 : decode b_B_fails 94 = .ok (.ireturn, 1) := by decide +kernel
noncomputable def f_B_fails_83 (s0 : ZS) (l1 : Int32) (l3 : Int32) : Option (Int32 × ZS) :=
  zs_nm (zs_up s0 0 11 l1) fun s2 =>
  if ¬ (l3 = 0 ∨ l3 = 1) then none else
  zs_nm (zs_up s2 0 12 l3) fun s3 =>
  some (1, s3)
noncomputable def f_B_fails_63 (s0 : ZS) (l1 : Int32) (l3 : Int32) (l4 : Int32) (l5 : Int32) : Option (Int32 × ZS) :=
  if l4 = 0 then
    if l5 = 0 then
      zs_nm (zs_up s0 0 10 2) fun s1 =>
      f_B_fails_83 s1 l1 l3
    else
      some (0, s0)
  else
    some (0, s0)
noncomputable def f_B_fails_43 (s0 : ZS) (l1 : Int32) (l2 : Int32) (l3 : Int32) (l4 : Int32) (t0 : Int32) : Option (Int32 × ZS) :=
  if l2 = 0 then
    f_B_fails_63 s0 l1 l3 l4 t0
  else
    if (l1 &&& 1) = 0 then
      f_B_fails_63 s0 l1 l3 l4 t0
    else
      zs_nm (zs_up s0 0 10 3) fun s4 =>
      f_B_fails_83 s4 l1 l3
noncomputable def f_B_fails_42 (s0 : ZS) (l1 : Int32) (l2 : Int32) (l3 : Int32) (l4 : Int32) : Option (Int32 × ZS) :=
  f_B_fails_43 s0 l1 l2 l3 l4 0
noncomputable def f_B_fails_20 (s0 : ZS) (l1 : Int32) (l2 : Int32) (l3 : Int32) (t0 : Int32) : Option (Int32 × ZS) :=
  if l2 = 0 then
    if l1 < 61440 then
      f_B_fails_42 s0 l1 l2 l3 t0
    else
      if 61443 < l1 then
        f_B_fails_42 s0 l1 l2 l3 t0
      else
        f_B_fails_43 s0 l1 l2 l3 t0 1
  else
    f_B_fails_42 s0 l1 l2 l3 t0
noncomputable def f_B_fails_19 (s0 : ZS) (l1 : Int32) (l2 : Int32) (l3 : Int32) : Option (Int32 × ZS) :=
  f_B_fails_20 s0 l1 l2 l3 0
noncomputable def f_B_fails (s0 : ZS) (x1 : Int32) (x2 : Int32) (x3 : Int32) : Option (Int32 × ZS) :=
  if x1 < 0 then
    f_B_fails_19 s0 x1 x2 x3
  else
    if (1024 - (zo_shl 1 x2)) < x1 then
      f_B_fails_19 s0 x1 x2 x3
    else
      f_B_fails_20 s0 x1 x2 x3 1
theorem j_B_fails_83 {P : ZP} {E : ZE} {A : Nat → Prop} (X : ZX E (zcV P) A "FrameMachine$Bus" b_B_fails 6 (some .boolean) 0 0) (s0 : ZS) (l1 : Int32) (l3 : Int32) : ZJ E (zcV P) A 6 (zFi E (zcV P) A) 83 [(0, .ref (P.1 2)), (1, .int l1), (3, .int l3)] [] s0 (f_B_fails_83 s0 l1 l3) := by
  unfold f_B_fails_83
  refine zj_aload_n 84 0 X kd_B_fails_83 rfl rfl rfl ?_
  refine zj_iload_n 85 1 X kd_B_fails_84 rfl rfl rfl ?_
  refine pf_B_39 88 X kd_B_fails_85 rfl ?_
  refine zj_nms (fun s2 => ?_)
  refine zj_aload_n 89 0 X kd_B_fails_88 rfl rfl rfl ?_
  refine zj_iload_n 90 2 X kd_B_fails_89 rfl rfl rfl ?_
  refine zj_ng (fun hg => ?_)
  refine pf_B_42 93 X kd_B_fails_90 (Decidable.not_not.mp hg) rfl ?_
  refine zj_nms (fun s3 => ?_)
  refine zj_iconst 94 1 X kd_B_fails_93 ki_1 rfl ?_
  exact zj_zret X kd_B_fails_94 (Or.inr rfl)
theorem j_B_fails_63 {P : ZP} {E : ZE} {A : Nat → Prop} (X : ZX E (zcV P) A "FrameMachine$Bus" b_B_fails 6 (some .boolean) 0 0) (s0 : ZS) (l1 : Int32) (l3 : Int32) (l4 : Int32) (l5 : Int32) : ZJ E (zcV P) A 6 (zFi E (zcV P) A) 63 [(0, .ref (P.1 2)), (1, .int l1), (3, .int l3), (4, .int l4), (5, .int l5)] [] s0 (f_B_fails_63 s0 l1 l3 l4 l5) := by
  unfold f_B_fails_63
  refine zj_iload 65 3 X kd_B_fails_63 rfl rfl ?_
  refine zj_if_ne 81 68 X kd_B_fails_65 rfl rfl (fun _ => ?_) (fun _ => ?_)
  · refine zj_iload 70 4 X kd_B_fails_68 rfl rfl ?_
    refine zj_if_ne 81 73 X kd_B_fails_70 rfl rfl (fun _ => ?_) (fun _ => ?_)
    · refine zj_aload_n 74 0 X kd_B_fails_73 rfl rfl rfl ?_
      refine zj_iconst 75 2 X kd_B_fails_74 ki_2 rfl ?_
      refine pf_B_35 78 X kd_B_fails_75 rfl ?_
      refine zj_nms (fun s1 => ?_)
      refine zj_goto 83 X kd_B_fails_78 rfl ?_
      refine zj_loc [0, 1, 2] (L2 := [(0, .ref (P.1 2)), (1, .int l1), (3, .int l3)]) rfl ?_
      exact j_B_fails_83 X s1 l1 l3
    · refine zj_iconst 82 0 X kd_B_fails_81 ki_0 rfl ?_
      exact zj_zret X kd_B_fails_82 (Or.inl rfl)
  · refine zj_iconst 82 0 X kd_B_fails_81 ki_0 rfl ?_
    exact zj_zret X kd_B_fails_82 (Or.inl rfl)
theorem j_B_fails_43 {P : ZP} {E : ZE} {A : Nat → Prop} (X : ZX E (zcV P) A "FrameMachine$Bus" b_B_fails 6 (some .boolean) 0 0) (s0 : ZS) (l1 : Int32) (l2 : Int32) (l3 : Int32) (l4 : Int32) (t0 : Int32) : ZJ E (zcV P) A 6 (zFi E (zcV P) A) 43 [(0, .ref (P.1 2)), (1, .int l1), (2, .int l2), (3, .int l3), (4, .int l4)] [.int t0] s0 (f_B_fails_43 s0 l1 l2 l3 l4 t0) := by
  unfold f_B_fails_43
  refine zj_istore 45 [(5, .int t0), (0, .ref (P.1 2)), (1, .int l1), (2, .int l2), (3, .int l3), (4, .int l4)] X kd_B_fails_43 (Nat.le_of_ble_eq_true rfl) rfl rfl ?_
  refine zj_iload_n 46 3 X kd_B_fails_45 rfl rfl rfl ?_
  refine zj_if_eq 63 49 X kd_B_fails_46 rfl rfl (fun _ => ?_) (fun _ => ?_)
  · refine zj_loc [1, 2, 4, 5, 0] (L2 := [(0, .ref (P.1 2)), (1, .int l1), (3, .int l3), (4, .int l4), (5, .int t0)]) rfl ?_
    exact j_B_fails_63 X s0 l1 l3 l4 t0
  · refine zj_iload_n 50 2 X kd_B_fails_49 rfl rfl rfl ?_
    refine zj_iconst 51 1 X kd_B_fails_50 ki_1 rfl ?_
    refine zj_iand 52 X kd_B_fails_51 rfl ?_
    refine zj_if_eq 63 55 X kd_B_fails_52 rfl rfl (fun _ => ?_) (fun _ => ?_)
    · refine zj_loc [1, 2, 4, 5, 0] (L2 := [(0, .ref (P.1 2)), (1, .int l1), (3, .int l3), (4, .int l4), (5, .int t0)]) rfl ?_
      exact j_B_fails_63 X s0 l1 l3 l4 t0
    · refine zj_aload_n 56 1 X kd_B_fails_55 rfl rfl rfl ?_
      refine zj_iconst 57 3 X kd_B_fails_56 ki_3 rfl ?_
      refine pf_B_35 60 X kd_B_fails_57 rfl ?_
      refine zj_nms (fun s4 => ?_)
      refine zj_goto 83 X kd_B_fails_60 rfl ?_
      refine zj_loc [1, 2, 4] (L2 := [(0, .ref (P.1 2)), (1, .int l1), (3, .int l3)]) rfl ?_
      exact j_B_fails_83 X s4 l1 l3
theorem j_B_fails_42 {P : ZP} {E : ZE} {A : Nat → Prop} (X : ZX E (zcV P) A "FrameMachine$Bus" b_B_fails 6 (some .boolean) 0 0) (s0 : ZS) (l1 : Int32) (l2 : Int32) (l3 : Int32) (l4 : Int32) : ZJ E (zcV P) A 6 (zFi E (zcV P) A) 42 [(0, .ref (P.1 2)), (1, .int l1), (2, .int l2), (3, .int l3), (4, .int l4)] [] s0 (f_B_fails_42 s0 l1 l2 l3 l4) := by
  unfold f_B_fails_42
  refine zj_iconst 43 0 X kd_B_fails_42 ki_0 rfl ?_
  exact j_B_fails_43 X s0 l1 l2 l3 l4 0
theorem j_B_fails_20 {P : ZP} {E : ZE} {A : Nat → Prop} (X : ZX E (zcV P) A "FrameMachine$Bus" b_B_fails 6 (some .boolean) 0 0) (s0 : ZS) (l1 : Int32) (l2 : Int32) (l3 : Int32) (t0 : Int32) : ZJ E (zcV P) A 6 (zFi E (zcV P) A) 20 [(0, .ref (P.1 2)), (1, .int l1), (2, .int l2), (3, .int l3)] [.int t0] s0 (f_B_fails_20 s0 l1 l2 l3 t0) := by
  unfold f_B_fails_20
  refine zj_istore 22 [(4, .int t0), (0, .ref (P.1 2)), (1, .int l1), (2, .int l2), (3, .int l3)] X kd_B_fails_20 (Nat.le_of_ble_eq_true rfl) rfl rfl ?_
  refine zj_iload_n 23 3 X kd_B_fails_22 rfl rfl rfl ?_
  refine zj_if_ne 42 26 X kd_B_fails_23 rfl rfl (fun _ => ?_) (fun _ => ?_)
  · refine zj_iload_n 27 2 X kd_B_fails_26 rfl rfl rfl ?_
    refine zj_ldc 29 61440 X kd_B_fails_27 kw_331 rfl ?_
    refine zj_icmp_lt 42 32 X kd_B_fails_29 rfl rfl (fun _ => ?_) (fun _ => ?_)
    · refine zj_loc [1, 2, 3, 4, 0] (L2 := [(0, .ref (P.1 2)), (1, .int l1), (2, .int l2), (3, .int l3), (4, .int t0)]) rfl ?_
      exact j_B_fails_42 X s0 l1 l2 l3 t0
    · refine zj_iload_n 33 2 X kd_B_fails_32 rfl rfl rfl ?_
      refine zj_ldc 35 61443 X kd_B_fails_33 kw_332 rfl ?_
      refine zj_icmp_gt 42 38 X kd_B_fails_35 rfl rfl (fun _ => ?_) (fun _ => ?_)
      · refine zj_loc [1, 2, 3, 4, 0] (L2 := [(0, .ref (P.1 2)), (1, .int l1), (2, .int l2), (3, .int l3), (4, .int t0)]) rfl ?_
        exact j_B_fails_42 X s0 l1 l2 l3 t0
      · refine zj_iconst 39 1 X kd_B_fails_38 ki_1 rfl ?_
        refine zj_goto 43 X kd_B_fails_39 rfl ?_
        refine zj_loc [1, 2, 3, 4, 0] (L2 := [(0, .ref (P.1 2)), (1, .int l1), (2, .int l2), (3, .int l3), (4, .int t0)]) rfl ?_
        exact j_B_fails_43 X s0 l1 l2 l3 t0 1
  · refine zj_loc [1, 2, 3, 4, 0] (L2 := [(0, .ref (P.1 2)), (1, .int l1), (2, .int l2), (3, .int l3), (4, .int t0)]) rfl ?_
    exact j_B_fails_42 X s0 l1 l2 l3 t0
theorem j_B_fails_19 {P : ZP} {E : ZE} {A : Nat → Prop} (X : ZX E (zcV P) A "FrameMachine$Bus" b_B_fails 6 (some .boolean) 0 0) (s0 : ZS) (l1 : Int32) (l2 : Int32) (l3 : Int32) : ZJ E (zcV P) A 6 (zFi E (zcV P) A) 19 [(0, .ref (P.1 2)), (1, .int l1), (2, .int l2), (3, .int l3)] [] s0 (f_B_fails_19 s0 l1 l2 l3) := by
  unfold f_B_fails_19
  refine zj_iconst 20 0 X kd_B_fails_19 ki_0 rfl ?_
  exact j_B_fails_20 X s0 l1 l2 l3 0
theorem j_B_fails {P : ZP} {E : ZE} {A : Nat → Prop} (X : ZX E (zcV P) A "FrameMachine$Bus" b_B_fails 6 (some .boolean) 0 0) (s0 : ZS) (x1 : Int32) (x2 : Int32) (x3 : Int32) : ZJ E (zcV P) A 6 (zFi E (zcV P) A) 0 [(0, .ref (P.1 2)), (1, .int x1), (2, .int x2), (3, .int x3)] [] s0 (f_B_fails s0 x1 x2 x3) := by
  unfold f_B_fails
  refine zj_iload_n 1 1 X kd_B_fails_0 rfl rfl rfl ?_
  refine zj_if_lt 19 4 X kd_B_fails_1 rfl rfl (fun _ => ?_) (fun _ => ?_)
  · exact j_B_fails_19 X s0 x1 x2 x3
  · refine zj_iload_n 5 1 X kd_B_fails_4 rfl rfl rfl ?_
    refine zj_sipush 8 1024 X kd_B_fails_5 ks_1024 rfl ?_
    refine zj_iconst 9 1 X kd_B_fails_8 ki_1 rfl ?_
    refine zj_iload_n 10 2 X kd_B_fails_9 rfl rfl rfl ?_
    refine zj_ishl 11 X kd_B_fails_10 rfl ?_
    refine zj_isub 12 X kd_B_fails_11 rfl ?_
    refine zj_icmp_gt 19 15 X kd_B_fails_12 rfl rfl (fun _ => ?_) (fun _ => ?_)
    · exact j_B_fails_19 X s0 x1 x2 x3
    · refine zj_iconst 16 1 X kd_B_fails_15 ki_1 rfl ?_
      refine zj_goto 20 X kd_B_fails_16 rfl ?_
      exact j_B_fails_20 X s0 x1 x2 x3 1
theorem c_B_fails {l : Launch} {P : ZP} (hV : ZVok (zcV P)) (s0 : ZS) (x1 : Int32) (x2 : Int32) (x3 : Int32) {z : Int32 × ZS} (h : f_B_fails s0 x1 x2 x3 = some z) : zMi l y_B_fails b_B_fails 6 (some .boolean) 0 0 (zcV P) s0 [.ref (P.1 2), .int x1, .int x2, .int x3] z :=
  zMi_of (by decide +kernel) rfl rfl (Nat.le_of_ble_eq_true rfl) hV (fun _ X => j_B_fails X s0 x1 x2 x3) h
theorem kc_B_19 : zCV "FrameMachine$Bus" 19 y_B_fails b_B_fails 6 (some .boolean) 3 := ⟨⟨kw_327, kw_329, ksel_0, kw_3, kw_330⟩, by decide +kernel, by decide +kernel, by decide +kernel⟩
theorem mc_B_19 {ρ : Type} {E : ZE} {P : ZP} {A : Nat → Prop} {cc : ByteArray} {nL : Nat} {ret : Option FieldType} {fr lo : Nat} {F : ρ → State → Prop} {pc : Nat} {L : List (Nat × Value)} {rest : List Value} {σ : ZS} {x1 : Int32} {x2 : Int32} {x3 : Int32} {K : Int32 × ZS → Option ρ} (q : Nat) (X : ZX E (zcV P) A "FrameMachine$Bus" cc nL ret fr lo) (d : decode cc pc = .ok (.invokevirtual 19, 3)) (hfr : 0 + 1 ≤ fr) (hlo : 8 + (6 + 11) + 0 ≤ lo) (hr : (rest.map fun v => v.category).sum ≤ 8) (hq : pc + 3 = q) (kk : ∀ p : Int32 × ZS, ZJ E (zcV P) A nL F q L (.int p.1 :: rest) p.2 (K p)) : ZJ E (zcV P) A nL F pc L (.int x3 :: .int x2 :: .int x1 :: .ref (P.1 2) :: rest) σ ((f_B_fails σ x1 x2 x3).bind K) :=
  zj_cVi q 2 2 (As := [.int x1, .int x2, .int x3]) (rest := rest) X kc_B_19 hfr hlo (fun p h => c_B_fails (zx_v X) σ x1 x2 x3 h) rfl rfl rfl hr d hq kk
-- FrameMachine$Devices.writeByte(II)V
theorem kd_D_writeByte_0 : decode b_D_writeByte 0 = .ok (.iload_n 2, 1) := by decide +kernel
theorem kd_D_writeByte_1 : decode b_D_writeByte 1 = .ok (.iconst 2, 1) := by decide +kernel
theorem kd_D_writeByte_2 : decode b_D_writeByte 2 = .ok (.iand, 1) := by decide +kernel
theorem kd_D_writeByte_3 : decode b_D_writeByte 3 = .ok (.ifCond .eq 7, 3) := by decide +kernel
theorem kd_D_writeByte_6 : decode b_D_writeByte 6 = .ok (.iconst 1, 1) := by decide +kernel
theorem kd_D_writeByte_7 : decode b_D_writeByte 7 = .ok (.goto 4, 3) := by decide +kernel
theorem kd_D_writeByte_10 : decode b_D_writeByte 10 = .ok (.iconst 0, 1) := by decide +kernel
theorem kd_D_writeByte_11 : decode b_D_writeByte 11 = .ok (.istore_n 3, 1) := by decide +kernel
theorem kd_D_writeByte_12 : decode b_D_writeByte 12 = .ok (.iload_n 1, 1) := by decide +kernel
theorem kd_D_writeByte_13 : decode b_D_writeByte 13 = .ok (.tableswitch 151 61440 61443 #[31, 65, 103, 128], 31) := by decide +kernel
theorem kd_D_writeByte_44 : decode b_D_writeByte 44 = .ok (.aload_n 0, 1) := by decide +kernel
theorem kd_D_writeByte_45 : decode b_D_writeByte 45 = .ok (.iload_n 2, 1) := by decide +kernel
theorem kd_D_writeByte_46 : decode b_D_writeByte 46 = .ok (.sipush 255, 3) := by decide +kernel
theorem kd_D_writeByte_49 : decode b_D_writeByte 49 = .ok (.iand, 1) := by decide +kernel
theorem kd_D_writeByte_50 : decode b_D_writeByte 50 = .ok (.ifCond .ne 9, 3) := by decide +kernel
theorem kd_D_writeByte_53 : decode b_D_writeByte 53 = .ok (.sipush 256, 3) := by decide +kernel
theorem kd_D_writeByte_56 : decode b_D_writeByte 56 = .ok (.goto 8, 3) := by decide +kernel
theorem kd_D_writeByte_59 : decode b_D_writeByte 59 = .ok (.iload_n 2, 1) := by decide +kernel
theorem kd_D_writeByte_60 : decode b_D_writeByte 60 = .ok (.sipush 255, 3) := by decide +kernel
theorem kd_D_writeByte_63 : decode b_D_writeByte 63 = .ok (.iand, 1) := by decide +kernel
theorem kd_D_writeByte_64 : decode b_D_writeByte 64 = .ok (.putfield 11, 3) := by decide +kernel
theorem kd_D_writeByte_67 : decode b_D_writeByte 67 = .ok (.aload_n 0, 1) := by decide +kernel
theorem kd_D_writeByte_68 : decode b_D_writeByte 68 = .ok (.aload_n 0, 1) := by decide +kernel
theorem kd_D_writeByte_69 : decode b_D_writeByte 69 = .ok (.getfield 11, 3) := by decide +kernel
theorem kd_D_writeByte_72 : decode b_D_writeByte 72 = .ok (.putfield 15, 3) := by decide +kernel
theorem kd_D_writeByte_75 : decode b_D_writeByte 75 = .ok (.goto 89, 3) := by decide +kernel
theorem kd_D_writeByte_78 : decode b_D_writeByte 78 = .ok (.aload_n 0, 1) := by decide +kernel
theorem kd_D_writeByte_79 : decode b_D_writeByte 79 = .ok (.iload_n 2, 1) := by decide +kernel
theorem kd_D_writeByte_80 : decode b_D_writeByte 80 = .ok (.iconst 1, 1) := by decide +kernel
theorem kd_D_writeByte_81 : decode b_D_writeByte 81 = .ok (.iand, 1) := by decide +kernel
theorem kd_D_writeByte_82 : decode b_D_writeByte 82 = .ok (.ifCond .eq 7, 3) := by decide +kernel
theorem kd_D_writeByte_85 : decode b_D_writeByte 85 = .ok (.iconst 1, 1) := by decide +kernel
theorem kd_D_writeByte_86 : decode b_D_writeByte 86 = .ok (.goto 4, 3) := by decide +kernel
theorem kd_D_writeByte_89 : decode b_D_writeByte 89 = .ok (.iconst 0, 1) := by decide +kernel
theorem kd_D_writeByte_90 : decode b_D_writeByte 90 = .ok (.putfield 22, 3) := by decide +kernel
theorem kd_D_writeByte_93 : decode b_D_writeByte 93 = .ok (.aload_n 0, 1) := by decide +kernel
theorem kd_D_writeByte_94 : decode b_D_writeByte 94 = .ok (.aload_n 0, 1) := by decide +kernel
theorem kd_D_writeByte_95 : decode b_D_writeByte 95 = .ok (.getfield 26, 3) := by decide +kernel
theorem kd_D_writeByte_98 : decode b_D_writeByte 98 = .ok (.ifCond .eq 11, 3) := by decide +kernel
theorem kd_D_writeByte_101 : decode b_D_writeByte 101 = .ok (.iload_n 3, 1) := by decide +kernel
theorem kd_D_writeByte_102 : decode b_D_writeByte 102 = .ok (.ifCond .ne 7, 3) := by decide +kernel
theorem kd_D_writeByte_105 : decode b_D_writeByte 105 = .ok (.iconst 1, 1) := by decide +kernel
theorem kd_D_writeByte_106 : decode b_D_writeByte 106 = .ok (.goto 4, 3) := by decide +kernel
theorem kd_D_writeByte_109 : decode b_D_writeByte 109 = .ok (.iconst 0, 1) := by decide +kernel
theorem kd_D_writeByte_110 : decode b_D_writeByte 110 = .ok (.putfield 26, 3) := by decide +kernel
theorem kd_D_writeByte_113 : decode b_D_writeByte 113 = .ok (.goto 51, 3) := by decide +kernel
theorem kd_D_writeByte_116 : decode b_D_writeByte 116 = .ok (.aload_n 0, 1) := by decide +kernel
theorem kd_D_writeByte_117 : decode b_D_writeByte 117 = .ok (.getfield 38, 3) := by decide +kernel
theorem kd_D_writeByte_120 : decode b_D_writeByte 120 = .ok (.ifCond .ne 44, 3) := by decide +kernel
theorem kd_D_writeByte_123 : decode b_D_writeByte 123 = .ok (.aload_n 0, 1) := by decide +kernel
theorem kd_D_writeByte_124 : decode b_D_writeByte 124 = .ok (.bipush 8, 2) := by decide +kernel
theorem kd_D_writeByte_126 : decode b_D_writeByte 126 = .ok (.putfield 38, 3) := by decide +kernel
theorem kd_D_writeByte_129 : decode b_D_writeByte 129 = .ok (.aload_n 0, 1) := by decide +kernel
theorem kd_D_writeByte_130 : decode b_D_writeByte 130 = .ok (.iload_n 2, 1) := by decide +kernel
theorem kd_D_writeByte_131 : decode b_D_writeByte 131 = .ok (.sipush 255, 3) := by decide +kernel
theorem kd_D_writeByte_134 : decode b_D_writeByte 134 = .ok (.iand, 1) := by decide +kernel
theorem kd_D_writeByte_135 : decode b_D_writeByte 135 = .ok (.putfield 41, 3) := by decide +kernel
theorem kd_D_writeByte_138 : decode b_D_writeByte 138 = .ok (.goto 26, 3) := by decide +kernel
theorem kd_D_writeByte_141 : decode b_D_writeByte 141 = .ok (.aload_n 0, 1) := by decide +kernel
theorem kd_D_writeByte_142 : decode b_D_writeByte 142 = .ok (.aload_n 0, 1) := by decide +kernel
theorem kd_D_writeByte_143 : decode b_D_writeByte 143 = .ok (.getfield 35, 3) := by decide +kernel
theorem kd_D_writeByte_146 : decode b_D_writeByte 146 = .ok (.ifCond .eq 11, 3) := by decide +kernel
theorem kd_D_writeByte_149 : decode b_D_writeByte 149 = .ok (.iload_n 3, 1) := by decide +kernel
theorem kd_D_writeByte_150 : decode b_D_writeByte 150 = .ok (.ifCond .ne 7, 3) := by decide +kernel
theorem kd_D_writeByte_153 : decode b_D_writeByte 153 = .ok (.iconst 1, 1) := by decide +kernel
theorem kd_D_writeByte_154 : decode b_D_writeByte 154 = .ok (.goto 4, 3) := by decide +kernel
theorem kd_D_writeByte_157 : decode b_D_writeByte 157 = .ok (.iconst 0, 1) := by decide +kernel
theorem kd_D_writeByte_158 : decode b_D_writeByte 158 = .ok (.putfield 35, 3) := by decide +kernel
theorem kd_D_writeByte_161 : decode b_D_writeByte 161 = .ok (.goto 3, 3) := by decide +kernel
theorem kd_D_writeByte_164 : decode b_D_writeByte 164 = .ok (.return_, 1) := by decide +kernel
noncomputable def f_D_writeByte_64 (s0 : ZS) (t0 : Int32) : Option (ZS) :=
  zs_nm (zs_up s0 0 0 t0) fun s1 =>
  zs_nm (zs_up s1 0 1 (s1 0 0)) fun s2 =>
  some s2
noncomputable def f_D_writeByte_110 (s0 : ZS) (t0 : Int32) : Option (ZS) :=
  if ¬ (t0 = 0 ∨ t0 = 1) then none else
  zs_nm (zs_up s0 0 3 t0) fun s4 =>
  some s4
noncomputable def f_D_writeByte_109 (s0 : ZS)  : Option (ZS) :=
  f_D_writeByte_110 s0 0
noncomputable def f_D_writeByte_90 (s0 : ZS) (l3 : Int32) (t0 : Int32) : Option (ZS) :=
  if ¬ (t0 = 0 ∨ t0 = 1) then none else
  zs_nm (zs_up s0 0 2 t0) fun s3 =>
  if (s3 0 3) = 0 then
    f_D_writeByte_109 s3
  else
    if l3 = 0 then
      f_D_writeByte_110 s3 1
    else
      f_D_writeByte_109 s3
noncomputable def f_D_writeByte_158 (s0 : ZS) (t0 : Int32) : Option (ZS) :=
  if ¬ (t0 = 0 ∨ t0 = 1) then none else
  zs_nm (zs_up s0 0 6 t0) fun s7 =>
  some s7
noncomputable def f_D_writeByte_157 (s0 : ZS)  : Option (ZS) :=
  f_D_writeByte_158 s0 0
noncomputable def f_D_writeByte_11 (s0 : ZS) (l1 : Int32) (l2 : Int32) (t0 : Int32) : Option (ZS) :=
  if l1 = 61440 then
    if (l2 &&& 255) = 0 then
      f_D_writeByte_64 s0 256
    else
      f_D_writeByte_64 s0 ((l2 &&& 255))
  else if l1 = 61441 then
    if (l2 &&& 1) = 0 then
      f_D_writeByte_90 s0 t0 0
    else
      f_D_writeByte_90 s0 t0 1
  else if l1 = 61442 then
    if (s0 0 7) = 0 then
      zs_nm (zs_up s0 0 7 8) fun s5 =>
      zs_nm (zs_up s5 0 8 (l2 &&& 255)) fun s6 =>
      some s6
    else
      some s0
  else if l1 = 61443 then
    if (s0 0 6) = 0 then
      f_D_writeByte_157 s0
    else
      if t0 = 0 then
        f_D_writeByte_158 s0 1
      else
        f_D_writeByte_157 s0
  else 
    some s0
noncomputable def f_D_writeByte (s0 : ZS) (x1 : Int32) (x2 : Int32) : Option (ZS) :=
  if (x2 &&& 2) = 0 then
    f_D_writeByte_11 s0 x1 x2 0
  else
    f_D_writeByte_11 s0 x1 x2 1
theorem j_D_writeByte_64 {P : ZP} {E : ZE} {A : Nat → Prop} (X : ZX E (zcV P) A "FrameMachine$Devices" b_D_writeByte 4 none 0 0) (s0 : ZS) (t0 : Int32) : ZJ E (zcV P) A 4 (zFv E (zcV P) A) 64 [(0, .ref (P.1 1))] [.int t0, .ref (P.1 1)] s0 (f_D_writeByte_64 s0 t0) := by
  unfold f_D_writeByte_64
  refine pf_D_11 67 X kd_D_writeByte_64 rfl ?_
  refine zj_nms (fun s1 => ?_)
  refine zj_aload_n 68 0 X kd_D_writeByte_67 rfl rfl rfl ?_
  refine zj_aload_n 69 0 X kd_D_writeByte_68 rfl rfl rfl ?_
  refine gf_D_11 72 X kd_D_writeByte_69 rfl ?_
  refine pf_D_15 75 X kd_D_writeByte_72 rfl ?_
  refine zj_nms (fun s2 => ?_)
  refine zj_goto 164 X kd_D_writeByte_75 rfl ?_
  exact zj_vret X kd_D_writeByte_164
theorem j_D_writeByte_110 {P : ZP} {E : ZE} {A : Nat → Prop} (X : ZX E (zcV P) A "FrameMachine$Devices" b_D_writeByte 4 none 0 0) (s0 : ZS) (t0 : Int32) : ZJ E (zcV P) A 4 (zFv E (zcV P) A) 110 [] [.int t0, .ref (P.1 1)] s0 (f_D_writeByte_110 s0 t0) := by
  unfold f_D_writeByte_110
  refine zj_ng (fun hg => ?_)
  refine pf_D_26 113 X kd_D_writeByte_110 (Decidable.not_not.mp hg) rfl ?_
  refine zj_nms (fun s4 => ?_)
  refine zj_goto 164 X kd_D_writeByte_113 rfl ?_
  exact zj_vret X kd_D_writeByte_164
theorem j_D_writeByte_109 {P : ZP} {E : ZE} {A : Nat → Prop} (X : ZX E (zcV P) A "FrameMachine$Devices" b_D_writeByte 4 none 0 0) (s0 : ZS)  : ZJ E (zcV P) A 4 (zFv E (zcV P) A) 109 [] [.ref (P.1 1)] s0 (f_D_writeByte_109 s0) := by
  unfold f_D_writeByte_109
  refine zj_iconst 110 0 X kd_D_writeByte_109 ki_0 rfl ?_
  exact j_D_writeByte_110 X s0 0
theorem j_D_writeByte_90 {P : ZP} {E : ZE} {A : Nat → Prop} (X : ZX E (zcV P) A "FrameMachine$Devices" b_D_writeByte 4 none 0 0) (s0 : ZS) (l3 : Int32) (t0 : Int32) : ZJ E (zcV P) A 4 (zFv E (zcV P) A) 90 [(0, .ref (P.1 1)), (3, .int l3)] [.int t0, .ref (P.1 1)] s0 (f_D_writeByte_90 s0 l3 t0) := by
  unfold f_D_writeByte_90
  refine zj_ng (fun hg => ?_)
  refine pf_D_22 93 X kd_D_writeByte_90 (Decidable.not_not.mp hg) rfl ?_
  refine zj_nms (fun s3 => ?_)
  refine zj_aload_n 94 0 X kd_D_writeByte_93 rfl rfl rfl ?_
  refine zj_aload_n 95 0 X kd_D_writeByte_94 rfl rfl rfl ?_
  refine gf_D_26 98 X kd_D_writeByte_95 rfl ?_
  refine zj_if_eq 109 101 X kd_D_writeByte_98 rfl rfl (fun _ => ?_) (fun _ => ?_)
  · refine zj_loc [] (L2 := []) rfl ?_
    exact j_D_writeByte_109 X s3
  · refine zj_iload_n 102 1 X kd_D_writeByte_101 rfl rfl rfl ?_
    refine zj_if_ne 109 105 X kd_D_writeByte_102 rfl rfl (fun _ => ?_) (fun _ => ?_)
    · refine zj_iconst 106 1 X kd_D_writeByte_105 ki_1 rfl ?_
      refine zj_goto 110 X kd_D_writeByte_106 rfl ?_
      refine zj_loc [] (L2 := []) rfl ?_
      exact j_D_writeByte_110 X s3 1
    · refine zj_loc [] (L2 := []) rfl ?_
      exact j_D_writeByte_109 X s3
theorem j_D_writeByte_158 {P : ZP} {E : ZE} {A : Nat → Prop} (X : ZX E (zcV P) A "FrameMachine$Devices" b_D_writeByte 4 none 0 0) (s0 : ZS) (t0 : Int32) : ZJ E (zcV P) A 4 (zFv E (zcV P) A) 158 [] [.int t0, .ref (P.1 1)] s0 (f_D_writeByte_158 s0 t0) := by
  unfold f_D_writeByte_158
  refine zj_ng (fun hg => ?_)
  refine pf_D_35 161 X kd_D_writeByte_158 (Decidable.not_not.mp hg) rfl ?_
  refine zj_nms (fun s7 => ?_)
  refine zj_goto 164 X kd_D_writeByte_161 rfl ?_
  exact zj_vret X kd_D_writeByte_164
theorem j_D_writeByte_157 {P : ZP} {E : ZE} {A : Nat → Prop} (X : ZX E (zcV P) A "FrameMachine$Devices" b_D_writeByte 4 none 0 0) (s0 : ZS)  : ZJ E (zcV P) A 4 (zFv E (zcV P) A) 157 [] [.ref (P.1 1)] s0 (f_D_writeByte_157 s0) := by
  unfold f_D_writeByte_157
  refine zj_iconst 158 0 X kd_D_writeByte_157 ki_0 rfl ?_
  exact j_D_writeByte_158 X s0 0
theorem j_D_writeByte_11 {P : ZP} {E : ZE} {A : Nat → Prop} (X : ZX E (zcV P) A "FrameMachine$Devices" b_D_writeByte 4 none 0 0) (s0 : ZS) (l1 : Int32) (l2 : Int32) (t0 : Int32) : ZJ E (zcV P) A 4 (zFv E (zcV P) A) 11 [(0, .ref (P.1 1)), (1, .int l1), (2, .int l2)] [.int t0] s0 (f_D_writeByte_11 s0 l1 l2 t0) := by
  unfold f_D_writeByte_11
  refine zj_istore_n 12 [(3, .int t0), (0, .ref (P.1 1)), (1, .int l1), (2, .int l2)] X kd_D_writeByte_11 rfl (Nat.le_of_ble_eq_true rfl) rfl rfl ?_
  refine zj_iload_n 13 2 X kd_D_writeByte_12 rfl rfl rfl ?_
  refine zj_tcase 44 X kd_D_writeByte_13 (by decide) (by decide) rfl rfl (fun _ => ?_) (fun h0 => ?_)
  · refine zj_aload_n 45 1 X kd_D_writeByte_44 rfl rfl rfl ?_
    refine zj_iload_n 46 3 X kd_D_writeByte_45 rfl rfl rfl ?_
    refine zj_sipush 49 255 X kd_D_writeByte_46 ks_255 rfl ?_
    refine zj_iand 50 X kd_D_writeByte_49 rfl ?_
    refine zj_if_ne 59 53 X kd_D_writeByte_50 rfl rfl (fun _ => ?_) (fun _ => ?_)
    · refine zj_sipush 56 256 X kd_D_writeByte_53 ks_256 rfl ?_
      refine zj_goto 64 X kd_D_writeByte_56 rfl ?_
      refine zj_loc [1] (L2 := [(0, .ref (P.1 1))]) rfl ?_
      exact j_D_writeByte_64 X s0 256
    · refine zj_iload_n 60 3 X kd_D_writeByte_59 rfl rfl rfl ?_
      refine zj_sipush 63 255 X kd_D_writeByte_60 ks_255 rfl ?_
      refine zj_iand 64 X kd_D_writeByte_63 rfl ?_
      refine zj_loc [1] (L2 := [(0, .ref (P.1 1))]) rfl ?_
      exact j_D_writeByte_64 X s0 ((l2 &&& 255))
  refine zj_tcase 78 X kd_D_writeByte_13 (by decide) (by decide) rfl rfl (fun _ => ?_) (fun h1 => ?_)
  · refine zj_aload_n 79 1 X kd_D_writeByte_78 rfl rfl rfl ?_
    refine zj_iload_n 80 3 X kd_D_writeByte_79 rfl rfl rfl ?_
    refine zj_iconst 81 1 X kd_D_writeByte_80 ki_1 rfl ?_
    refine zj_iand 82 X kd_D_writeByte_81 rfl ?_
    refine zj_if_eq 89 85 X kd_D_writeByte_82 rfl rfl (fun _ => ?_) (fun _ => ?_)
    · refine zj_iconst 90 0 X kd_D_writeByte_89 ki_0 rfl ?_
      refine zj_loc [1, 0] (L2 := [(0, .ref (P.1 1)), (3, .int t0)]) rfl ?_
      exact j_D_writeByte_90 X s0 t0 0
    · refine zj_iconst 86 1 X kd_D_writeByte_85 ki_1 rfl ?_
      refine zj_goto 90 X kd_D_writeByte_86 rfl ?_
      refine zj_loc [1, 0] (L2 := [(0, .ref (P.1 1)), (3, .int t0)]) rfl ?_
      exact j_D_writeByte_90 X s0 t0 1
  refine zj_tcase 116 X kd_D_writeByte_13 (by decide) (by decide) rfl rfl (fun _ => ?_) (fun h2 => ?_)
  · refine zj_aload_n 117 1 X kd_D_writeByte_116 rfl rfl rfl ?_
    refine gf_D_38 120 X kd_D_writeByte_117 rfl ?_
    refine zj_if_ne 164 123 X kd_D_writeByte_120 rfl rfl (fun _ => ?_) (fun _ => ?_)
    · refine zj_aload_n 124 1 X kd_D_writeByte_123 rfl rfl rfl ?_
      refine zj_bipush 126 8 X kd_D_writeByte_124 kb_8 rfl ?_
      refine pf_D_38 129 X kd_D_writeByte_126 rfl ?_
      refine zj_nms (fun s5 => ?_)
      refine zj_aload_n 130 1 X kd_D_writeByte_129 rfl rfl rfl ?_
      refine zj_iload_n 131 3 X kd_D_writeByte_130 rfl rfl rfl ?_
      refine zj_sipush 134 255 X kd_D_writeByte_131 ks_255 rfl ?_
      refine zj_iand 135 X kd_D_writeByte_134 rfl ?_
      refine pf_D_41 138 X kd_D_writeByte_135 rfl ?_
      refine zj_nms (fun s6 => ?_)
      refine zj_goto 164 X kd_D_writeByte_138 rfl ?_
      exact zj_vret X kd_D_writeByte_164
    · exact zj_vret X kd_D_writeByte_164
  refine zj_tcase 141 X kd_D_writeByte_13 (by decide) (by decide) rfl rfl (fun _ => ?_) (fun h3 => ?_)
  · refine zj_aload_n 142 1 X kd_D_writeByte_141 rfl rfl rfl ?_
    refine zj_aload_n 143 1 X kd_D_writeByte_142 rfl rfl rfl ?_
    refine gf_D_35 146 X kd_D_writeByte_143 rfl ?_
    refine zj_if_eq 157 149 X kd_D_writeByte_146 rfl rfl (fun _ => ?_) (fun _ => ?_)
    · refine zj_loc [] (L2 := []) rfl ?_
      exact j_D_writeByte_157 X s0
    · refine zj_iload_n 150 0 X kd_D_writeByte_149 rfl rfl rfl ?_
      refine zj_if_ne 157 153 X kd_D_writeByte_150 rfl rfl (fun _ => ?_) (fun _ => ?_)
      · refine zj_iconst 154 1 X kd_D_writeByte_153 ki_1 rfl ?_
        refine zj_goto 158 X kd_D_writeByte_154 rfl ?_
        refine zj_loc [] (L2 := []) rfl ?_
        exact j_D_writeByte_158 X s0 1
      · refine zj_loc [] (L2 := []) rfl ?_
        exact j_D_writeByte_157 X s0
  refine zj_tdef 164 X kd_D_writeByte_13 (by have h0 := lv_neT (a := 61440) h0 rfl; have h1 := lv_neT (a := 61441) h1 rfl; have h2 := lv_neT (a := 61442) h2 rfl; have h3 := lv_neT (a := 61443) h3 rfl; omega) rfl ?_
  exact zj_vret X kd_D_writeByte_164
theorem j_D_writeByte {P : ZP} {E : ZE} {A : Nat → Prop} (X : ZX E (zcV P) A "FrameMachine$Devices" b_D_writeByte 4 none 0 0) (s0 : ZS) (x1 : Int32) (x2 : Int32) : ZJ E (zcV P) A 4 (zFv E (zcV P) A) 0 [(0, .ref (P.1 1)), (1, .int x1), (2, .int x2)] [] s0 (f_D_writeByte s0 x1 x2) := by
  unfold f_D_writeByte
  refine zj_iload_n 1 2 X kd_D_writeByte_0 rfl rfl rfl ?_
  refine zj_iconst 2 2 X kd_D_writeByte_1 ki_2 rfl ?_
  refine zj_iand 3 X kd_D_writeByte_2 rfl ?_
  refine zj_if_eq 10 6 X kd_D_writeByte_3 rfl rfl (fun _ => ?_) (fun _ => ?_)
  · refine zj_iconst 11 0 X kd_D_writeByte_10 ki_0 rfl ?_
    exact j_D_writeByte_11 X s0 x1 x2 0
  · refine zj_iconst 7 1 X kd_D_writeByte_6 ki_1 rfl ?_
    refine zj_goto 11 X kd_D_writeByte_7 rfl ?_
    exact j_D_writeByte_11 X s0 x1 x2 1
theorem c_D_writeByte {l : Launch} {P : ZP} (hV : ZVok (zcV P)) (s0 : ZS) (x1 : Int32) (x2 : Int32) {z : ZS} (h : f_D_writeByte s0 x1 x2 = some z) : zMv l y_D_writeByte b_D_writeByte 4 none 0 0 (zcV P) s0 [.ref (P.1 1), .int x1, .int x2] z :=
  zMv_of (by decide +kernel) rfl rfl (Nat.le_of_ble_eq_true rfl) hV (fun _ X => j_D_writeByte X s0 x1 x2) h
theorem kc_B_29 : zCV "FrameMachine$Bus" 29 y_D_writeByte b_D_writeByte 4 none 2 := ⟨⟨kw_434, kw_435, kw_436, kw_2, kw_437⟩, by decide +kernel, by decide +kernel, by decide +kernel⟩
theorem mc_B_29 {ρ : Type} {E : ZE} {P : ZP} {A : Nat → Prop} {cc : ByteArray} {nL : Nat} {ret : Option FieldType} {fr lo : Nat} {F : ρ → State → Prop} {pc : Nat} {L : List (Nat × Value)} {rest : List Value} {σ : ZS} {x1 : Int32} {x2 : Int32} {K : ZS → Option ρ} (q : Nat) (X : ZX E (zcV P) A "FrameMachine$Bus" cc nL ret fr lo) (d : decode cc pc = .ok (.invokevirtual 29, 3)) (hfr : 0 + 1 ≤ fr) (hlo : 8 + (4 + 11) + 0 ≤ lo) (hr : (rest.map fun v => v.category).sum ≤ 8) (hq : pc + 3 = q) (kk : ∀ p : ZS, ZJ E (zcV P) A nL F q L (rest) p (K p)) : ZJ E (zcV P) A nL F pc L (.int x2 :: .int x1 :: .ref (P.1 1) :: rest) σ ((f_D_writeByte σ x1 x2).bind K) :=
  zj_cVv q 1 1 (As := [.int x1, .int x2]) (rest := rest) X kc_B_29 hfr hlo (fun p h => c_D_writeByte (zx_v X) σ x1 x2 h) rfl rfl rfl hr d hq kk
-- FrameMachine$Bus.write(III)V
theorem kd_B_write_0 : decode b_B_write 0 = .ok (.aload_n 0, 1) := by decide +kernel
theorem kd_B_write_1 : decode b_B_write 1 = .ok (.iload_n 1, 1) := by decide +kernel
theorem kd_B_write_2 : decode b_B_write 2 = .ok (.iload_n 2, 1) := by decide +kernel
theorem kd_B_write_3 : decode b_B_write 3 = .ok (.iconst 0, 1) := by decide +kernel
theorem kd_B_write_4 : decode b_B_write 4 = .ok (.invokevirtual 19, 3) := by decide +kernel
theorem kd_B_write_7 : decode b_B_write 7 = .ok (.ifCond .eq 4, 3) := by decide +kernel
theorem kd_B_write_10 : decode b_B_write 10 = .ok (.return_, 1) := by decide +kernel
theorem kd_B_write_11 : decode b_B_write 11 = .ok (.iload_n 1, 1) := by decide +kernel
theorem kd_B_write_12 : decode b_B_write 12 = .ok (.sipush 1024, 3) := by decide +kernel
theorem kd_B_write_15 : decode b_B_write 15 = .ok (.if_icmp .lt 13, 3) := by decide +kernel
theorem kd_B_write_18 : decode b_B_write 18 = .ok (.aload_n 0, 1) := by decide +kernel
theorem kd_B_write_19 : decode b_B_write 19 = .ok (.getfield 15, 3) := by decide +kernel
theorem kd_B_write_22 : decode b_B_write 22 = .ok (.iload_n 1, 1) := by decide +kernel
theorem kd_B_write_23 : decode b_B_write 23 = .ok (.iload_n 3, 1) := by decide +kernel
theorem kd_B_write_24 : decode b_B_write 24 = .ok (.invokevirtual 29, 3) := by decide +kernel
theorem kd_B_write_27 : decode b_B_write 27 = .ok (.return_, 1) := by decide +kernel
theorem kd_B_write_28 : decode b_B_write 28 = .ok (.iload_n 3, 1) := by decide +kernel
theorem kd_B_write_29 : decode b_B_write 29 = .ok (.istore 4, 2) := by decide +kernel
theorem kd_B_write_31 : decode b_B_write 31 = .ok (.iconst 1, 1) := by decide +kernel
theorem kd_B_write_32 : decode b_B_write 32 = .ok (.iload_n 2, 1) := by decide +kernel
theorem kd_B_write_33 : decode b_B_write 33 = .ok (.ishl, 1) := by decide +kernel
theorem kd_B_write_34 : decode b_B_write 34 = .ok (.iconst 1, 1) := by decide +kernel
theorem kd_B_write_35 : decode b_B_write 35 = .ok (.isub, 1) := by decide +kernel
theorem kd_B_write_36 : decode b_B_write 36 = .ok (.istore 5, 2) := by decide +kernel
theorem kd_B_write_38 : decode b_B_write 38 = .ok (.iload 5, 2) := by decide +kernel
theorem kd_B_write_40 : decode b_B_write 40 = .ok (.ifCond .lt 28, 3) := by decide +kernel
theorem kd_B_write_43 : decode b_B_write 43 = .ok (.aload_n 0, 1) := by decide +kernel
theorem kd_B_write_44 : decode b_B_write 44 = .ok (.getfield 9, 3) := by decide +kernel
theorem kd_B_write_47 : decode b_B_write 47 = .ok (.iload_n 1, 1) := by decide +kernel
theorem kd_B_write_48 : decode b_B_write 48 = .ok (.iload 5, 2) := by decide +kernel
theorem kd_B_write_50 : decode b_B_write 50 = .ok (.iadd, 1) := by decide +kernel
theorem kd_B_write_51 : decode b_B_write 51 = .ok (.iload 4, 2) := by decide +kernel
theorem kd_B_write_53 : decode b_B_write 53 = .ok (.i2b, 1) := by decide +kernel
theorem kd_B_write_54 : decode b_B_write 54 = .ok (.bastore, 1) := by decide +kernel
theorem kd_B_write_55 : decode b_B_write 55 = .ok (.iload 4, 2) := by decide +kernel
theorem kd_B_write_57 : decode b_B_write 57 = .ok (.bipush 8, 2) := by decide +kernel
theorem kd_B_write_59 : decode b_B_write 59 = .ok (.ishr, 1) := by decide +kernel
theorem kd_B_write_60 : decode b_B_write 60 = .ok (.istore 4, 2) := by decide +kernel
theorem kd_B_write_62 : decode b_B_write 62 = .ok (.iinc 5 (-1), 3) := by decide +kernel
theorem kd_B_write_65 : decode b_B_write 65 = .ok (.goto (-27), 3) := by decide +kernel
theorem kd_B_write_68 : decode b_B_write 68 = .ok (.return_, 1) := by decide +kernel
noncomputable def f_B_write_38 : Nat → ZS → Int32 → Int32 → Int32 → Option (ZS)
  | 0, _, _, _, _ => none
  | n+1, s0, l1, l4, l5 =>
    if l5 < 0 then
      some s0
    else
      if (l1 + l5) < 0 ∨ 1024 ≤ (l1 + l5).toNatClampNeg then none else
      zs_nm (zs_up s0 1 (l1 + l5).toNatClampNeg ((l4.toInt8.toInt32).toInt8.toInt32)) fun s3 =>
      zs_nm (zo_shr l4 8) fun v4 =>
      zs_nm (l5 + (-1)) fun v5 =>
      (f_B_write_38 n) s3 l1 v4 v5
noncomputable def f_B_write (s0 : ZS) (x1 : Int32) (x2 : Int32) (x3 : Int32) : Option (ZS) :=
  (f_B_fails s0 x1 x2 0).bind fun p1 =>
  if p1.1 = 0 then
    if x1 < 1024 then
      zs_nm ((zo_shl 1 x2) - 1) fun v2 =>
      f_B_write_38 20 p1.2 x1 x3 v2
    else
      (f_D_writeByte p1.2 x1 x3).bind fun s6 =>
      some s6
  else
    some p1.2
theorem j_B_write_38 {P : ZP} {E : ZE} {A : Nat → Prop} (X : ZX E (zcV P) A "FrameMachine$Bus" b_B_write 6 none 1 25) : ∀ (n : Nat) (s0 : ZS) (l1 : Int32) (l4 : Int32) (l5 : Int32), ZJ E (zcV P) A 6 (zFv E (zcV P) A) 38 [(0, .ref (P.1 2)), (1, .int l1), (4, .int l4), (5, .int l5)] [] s0 (f_B_write_38 n s0 l1 l4 l5) := by
  intro n
  induction n with
  | zero => intro s0 l1 l4 l5; rw [f_B_write_38]; exact zj_none
  | succ n hK =>
    intro s0 l1 l4 l5
    rw [f_B_write_38]
    refine zj_iload 40 3 X kd_B_write_38 rfl rfl ?_
    refine zj_if_lt 68 43 X kd_B_write_40 rfl rfl (fun _ => ?_) (fun _ => ?_)
    · exact zj_vret X kd_B_write_68
    · refine zj_aload_n 44 0 X kd_B_write_43 rfl rfl rfl ?_
      refine gf_B_9 47 X kd_B_write_44 rfl ?_
      refine zj_iload_n 48 1 X kd_B_write_47 rfl rfl rfl ?_
      refine zj_iload 50 3 X kd_B_write_48 rfl rfl ?_
      refine zj_iadd 51 X kd_B_write_50 rfl ?_
      refine zj_iload 53 2 X kd_B_write_51 rfl rfl ?_
      refine zj_i2b 54 X kd_B_write_53 rfl ?_
      refine zj_ng (fun hg => ?_)
      refine as_C_1 55 X kd_B_write_54 hg rfl ?_
      refine zj_nms (fun s3 => ?_)
      refine zj_iload 57 2 X kd_B_write_55 rfl rfl ?_
      refine zj_bipush 59 8 X kd_B_write_57 kb_8 rfl ?_
      refine zj_ishr 60 X kd_B_write_59 rfl ?_
      refine zj_nmi (fun v4 => ?_)
      refine zj_istore 62 [(4, .int v4), (0, .ref (P.1 2)), (1, .int l1), (5, .int l5)] X kd_B_write_60 (Nat.le_of_ble_eq_true rfl) rfl rfl ?_
      refine zj_iinc 65 3 (-1) (fun v5 => [(5, .int v5), (4, .int v4), (0, .ref (P.1 2)), (1, .int l1)]) X kd_B_write_62 ki_m1 rfl (Nat.le_of_ble_eq_true rfl) (fun _ => rfl) rfl (fun v5 => ?_)
      refine zj_goto 38 X kd_B_write_65 rfl ?_
      refine zj_loc [2, 3, 1, 0] (L2 := [(0, .ref (P.1 2)), (1, .int l1), (4, .int v4), (5, .int v5)]) rfl ?_
      exact hK s3 l1 v4 v5
theorem j_B_write {P : ZP} {E : ZE} {A : Nat → Prop} (X : ZX E (zcV P) A "FrameMachine$Bus" b_B_write 6 none 1 25) (s0 : ZS) (x1 : Int32) (x2 : Int32) (x3 : Int32) : ZJ E (zcV P) A 6 (zFv E (zcV P) A) 0 [(0, .ref (P.1 2)), (1, .int x1), (2, .int x2), (3, .int x3)] [] s0 (f_B_write s0 x1 x2 x3) := by
  unfold f_B_write
  refine zj_aload_n 1 0 X kd_B_write_0 rfl rfl rfl ?_
  refine zj_iload_n 2 1 X kd_B_write_1 rfl rfl rfl ?_
  refine zj_iload_n 3 2 X kd_B_write_2 rfl rfl rfl ?_
  refine zj_iconst 4 0 X kd_B_write_3 ki_0 rfl ?_
  refine mc_B_19 7 X kd_B_write_4 (Nat.le_of_ble_eq_true rfl) (Nat.le_of_ble_eq_true rfl) (Nat.le_of_ble_eq_true rfl) rfl (fun p1 => ?_)
  refine zj_if_eq 11 10 X kd_B_write_7 rfl rfl (fun _ => ?_) (fun _ => ?_)
  · refine zj_iload_n 12 1 X kd_B_write_11 rfl rfl rfl ?_
    refine zj_sipush 15 1024 X kd_B_write_12 ks_1024 rfl ?_
    refine zj_icmp_lt 28 18 X kd_B_write_15 rfl rfl (fun _ => ?_) (fun _ => ?_)
    · refine zj_iload_n 29 3 X kd_B_write_28 rfl rfl rfl ?_
      refine zj_istore 31 [(4, .int x3), (0, .ref (P.1 2)), (1, .int x1), (2, .int x2), (3, .int x3)] X kd_B_write_29 (Nat.le_of_ble_eq_true rfl) rfl rfl ?_
      refine zj_iconst 32 1 X kd_B_write_31 ki_1 rfl ?_
      refine zj_iload_n 33 3 X kd_B_write_32 rfl rfl rfl ?_
      refine zj_ishl 34 X kd_B_write_33 rfl ?_
      refine zj_iconst 35 1 X kd_B_write_34 ki_1 rfl ?_
      refine zj_isub 36 X kd_B_write_35 rfl ?_
      refine zj_nmi (fun v2 => ?_)
      refine zj_istore 38 [(5, .int v2), (4, .int x3), (0, .ref (P.1 2)), (1, .int x1), (2, .int x2), (3, .int x3)] X kd_B_write_36 (Nat.le_of_ble_eq_true rfl) rfl rfl ?_
      refine zj_loc [2, 3, 1, 0] (L2 := [(0, .ref (P.1 2)), (1, .int x1), (4, .int x3), (5, .int v2)]) rfl ?_
      exact j_B_write_38 X 20 p1.2 x1 x3 v2
    · refine zj_aload_n 19 0 X kd_B_write_18 rfl rfl rfl ?_
      refine gf_B_15 22 X kd_B_write_19 rfl ?_
      refine zj_iload_n 23 1 X kd_B_write_22 rfl rfl rfl ?_
      refine zj_iload_n 24 3 X kd_B_write_23 rfl rfl rfl ?_
      refine mc_B_29 27 X kd_B_write_24 (Nat.le_of_ble_eq_true rfl) (Nat.le_of_ble_eq_true rfl) (Nat.le_of_ble_eq_true rfl) rfl (fun s6 => ?_)
      exact zj_vret X kd_B_write_27
  · exact zj_vret X kd_B_write_10
theorem c_B_write {l : Launch} {P : ZP} (hV : ZVok (zcV P)) (s0 : ZS) (x1 : Int32) (x2 : Int32) (x3 : Int32) {z : ZS} (h : f_B_write s0 x1 x2 x3 = some z) : zMv l y_B_write b_B_write 6 none 1 25 (zcV P) s0 [.ref (P.1 2), .int x1, .int x2, .int x3] z :=
  zMv_of (by decide +kernel) rfl rfl (Nat.le_of_ble_eq_true rfl) hV (fun _ X => j_B_write X s0 x1 x2 x3) h
theorem kc_F_67 : zCV "FrameMachine" 67 y_B_write b_B_write 6 none 3 := ⟨⟨kw_430, kw_431, kw_432, kw_3, kw_433⟩, by decide +kernel, by decide +kernel, by decide +kernel⟩
theorem mc_F_67 {ρ : Type} {E : ZE} {P : ZP} {A : Nat → Prop} {cc : ByteArray} {nL : Nat} {ret : Option FieldType} {fr lo : Nat} {F : ρ → State → Prop} {pc : Nat} {L : List (Nat × Value)} {rest : List Value} {σ : ZS} {x1 : Int32} {x2 : Int32} {x3 : Int32} {K : ZS → Option ρ} (q : Nat) (X : ZX E (zcV P) A "FrameMachine" cc nL ret fr lo) (d : decode cc pc = .ok (.invokevirtual 67, 3)) (hfr : 1 + 1 ≤ fr) (hlo : 8 + (6 + 11) + 25 ≤ lo) (hr : (rest.map fun v => v.category).sum ≤ 8) (hq : pc + 3 = q) (kk : ∀ p : ZS, ZJ E (zcV P) A nL F q L (rest) p (K p)) : ZJ E (zcV P) A nL F pc L (.int x3 :: .int x2 :: .int x1 :: .ref (P.1 2) :: rest) σ ((f_B_write σ x1 x2 x3).bind K) :=
  zj_cVv q 2 2 (As := [.int x1, .int x2, .int x3]) (rest := rest) X kc_F_67 hfr hlo (fun p h => c_B_write (zx_v X) σ x1 x2 x3 h) rfl rfl rfl hr d hq kk
theorem kc_O_85 : zCV "FrameMachine$Operand" 85 y_B_write b_B_write 6 none 3 := ⟨⟨kw_642, kw_431, kw_432, kw_3, kw_433⟩, by decide +kernel, by decide +kernel, by decide +kernel⟩
theorem mc_O_85 {ρ : Type} {E : ZE} {P : ZP} {A : Nat → Prop} {cc : ByteArray} {nL : Nat} {ret : Option FieldType} {fr lo : Nat} {F : ρ → State → Prop} {pc : Nat} {L : List (Nat × Value)} {rest : List Value} {σ : ZS} {x1 : Int32} {x2 : Int32} {x3 : Int32} {K : ZS → Option ρ} (q : Nat) (X : ZX E (zcV P) A "FrameMachine$Operand" cc nL ret fr lo) (d : decode cc pc = .ok (.invokevirtual 85, 3)) (hfr : 1 + 1 ≤ fr) (hlo : 8 + (6 + 11) + 25 ≤ lo) (hr : (rest.map fun v => v.category).sum ≤ 8) (hq : pc + 3 = q) (kk : ∀ p : ZS, ZJ E (zcV P) A nL F q L (rest) p (K p)) : ZJ E (zcV P) A nL F pc L (.int x3 :: .int x2 :: .int x1 :: .ref (P.1 2) :: rest) σ ((f_B_write σ x1 x2 x3).bind K) :=
  zj_cVv q 2 2 (As := [.int x1, .int x2, .int x3]) (rest := rest) X kc_O_85 hfr hlo (fun p h => c_B_write (zx_v X) σ x1 x2 x3 h) rfl rfl rfl hr d hq kk
theorem kc_Q_42 : zCV "FrameMachine$Pointers" 42 y_B_write b_B_write 6 none 3 := ⟨⟨kw_511, kw_431, kw_432, kw_3, kw_433⟩, by decide +kernel, by decide +kernel, by decide +kernel⟩
theorem mc_Q_42 {ρ : Type} {E : ZE} {P : ZP} {A : Nat → Prop} {cc : ByteArray} {nL : Nat} {ret : Option FieldType} {fr lo : Nat} {F : ρ → State → Prop} {pc : Nat} {L : List (Nat × Value)} {rest : List Value} {σ : ZS} {x1 : Int32} {x2 : Int32} {x3 : Int32} {K : ZS → Option ρ} (q : Nat) (X : ZX E (zcV P) A "FrameMachine$Pointers" cc nL ret fr lo) (d : decode cc pc = .ok (.invokevirtual 42, 3)) (hfr : 1 + 1 ≤ fr) (hlo : 8 + (6 + 11) + 25 ≤ lo) (hr : (rest.map fun v => v.category).sum ≤ 8) (hq : pc + 3 = q) (kk : ∀ p : ZS, ZJ E (zcV P) A nL F q L (rest) p (K p)) : ZJ E (zcV P) A nL F pc L (.int x3 :: .int x2 :: .int x1 :: .ref (P.1 2) :: rest) σ ((f_B_write σ x1 x2 x3).bind K) :=
  zj_cVv q 2 2 (As := [.int x1, .int x2, .int x3]) (rest := rest) X kc_Q_42 hfr hlo (fun p h => c_B_write (zx_v X) σ x1 x2 x3 h) rfl rfl rfl hr d hq kk
-- FrameMachine$Devices.readByte(I)I
theorem kd_D_readByte_0 : decode b_D_readByte 0 = .ok (.iload_n 1, 1) := by decide +kernel
theorem kd_D_readByte_1 : decode b_D_readByte 1 = .ok (.tableswitch 128 61440 61443 #[31, 40, 66, 89], 31) := by decide +kernel
theorem kd_D_readByte_32 : decode b_D_readByte 32 = .ok (.aload_n 0, 1) := by decide +kernel
theorem kd_D_readByte_33 : decode b_D_readByte 33 = .ok (.getfield 15, 3) := by decide +kernel
theorem kd_D_readByte_36 : decode b_D_readByte 36 = .ok (.sipush 255, 3) := by decide +kernel
theorem kd_D_readByte_39 : decode b_D_readByte 39 = .ok (.iand, 1) := by decide +kernel
theorem kd_D_readByte_40 : decode b_D_readByte 40 = .ok (.ireturn, 1) := by decide +kernel
theorem kd_D_readByte_41 : decode b_D_readByte 41 = .ok (.aload_n 0, 1) := by decide +kernel
theorem kd_D_readByte_42 : decode b_D_readByte 42 = .ok (.getfield 22, 3) := by decide +kernel
theorem kd_D_readByte_45 : decode b_D_readByte 45 = .ok (.ifCond .eq 7, 3) := by decide +kernel
theorem kd_D_readByte_48 : decode b_D_readByte 48 = .ok (.iconst 1, 1) := by decide +kernel
theorem kd_D_readByte_49 : decode b_D_readByte 49 = .ok (.goto 4, 3) := by decide +kernel
theorem kd_D_readByte_52 : decode b_D_readByte 52 = .ok (.iconst 0, 1) := by decide +kernel
theorem kd_D_readByte_53 : decode b_D_readByte 53 = .ok (.aload_n 0, 1) := by decide +kernel
theorem kd_D_readByte_54 : decode b_D_readByte 54 = .ok (.getfield 26, 3) := by decide +kernel
theorem kd_D_readByte_57 : decode b_D_readByte 57 = .ok (.ifCond .eq 7, 3) := by decide +kernel
theorem kd_D_readByte_60 : decode b_D_readByte 60 = .ok (.iconst 2, 1) := by decide +kernel
theorem kd_D_readByte_61 : decode b_D_readByte 61 = .ok (.goto 4, 3) := by decide +kernel
theorem kd_D_readByte_64 : decode b_D_readByte 64 = .ok (.iconst 0, 1) := by decide +kernel
theorem kd_D_readByte_65 : decode b_D_readByte 65 = .ok (.ior, 1) := by decide +kernel
theorem kd_D_readByte_66 : decode b_D_readByte 66 = .ok (.ireturn, 1) := by decide +kernel
theorem kd_D_readByte_67 : decode b_D_readByte 67 = .ok (.aload_n 0, 1) := by decide +kernel
theorem kd_D_readByte_68 : decode b_D_readByte 68 = .ok (.getfield 29, 3) := by decide +kernel
theorem kd_D_readByte_71 : decode b_D_readByte 71 = .ok (.ifCond .eq 10, 3) := by decide +kernel
theorem kd_D_readByte_74 : decode b_D_readByte 74 = .ok (.aload_n 0, 1) := by decide +kernel
theorem kd_D_readByte_75 : decode b_D_readByte 75 = .ok (.getfield 32, 3) := by decide +kernel
theorem kd_D_readByte_78 : decode b_D_readByte 78 = .ok (.goto 4, 3) := by decide +kernel
theorem kd_D_readByte_81 : decode b_D_readByte 81 = .ok (.iconst 0, 1) := by decide +kernel
theorem kd_D_readByte_82 : decode b_D_readByte 82 = .ok (.istore_n 2, 1) := by decide +kernel
theorem kd_D_readByte_83 : decode b_D_readByte 83 = .ok (.aload_n 0, 1) := by decide +kernel
theorem kd_D_readByte_84 : decode b_D_readByte 84 = .ok (.iconst 0, 1) := by decide +kernel
theorem kd_D_readByte_85 : decode b_D_readByte 85 = .ok (.putfield 29, 3) := by decide +kernel
theorem kd_D_readByte_88 : decode b_D_readByte 88 = .ok (.iload_n 2, 1) := by decide +kernel
theorem kd_D_readByte_89 : decode b_D_readByte 89 = .ok (.ireturn, 1) := by decide +kernel
theorem kd_D_readByte_90 : decode b_D_readByte 90 = .ok (.aload_n 0, 1) := by decide +kernel
theorem kd_D_readByte_91 : decode b_D_readByte 91 = .ok (.getfield 29, 3) := by decide +kernel
theorem kd_D_readByte_94 : decode b_D_readByte 94 = .ok (.ifCond .eq 7, 3) := by decide +kernel
theorem kd_D_readByte_97 : decode b_D_readByte 97 = .ok (.iconst 1, 1) := by decide +kernel
theorem kd_D_readByte_98 : decode b_D_readByte 98 = .ok (.goto 4, 3) := by decide +kernel
theorem kd_D_readByte_101 : decode b_D_readByte 101 = .ok (.iconst 0, 1) := by decide +kernel
theorem kd_D_readByte_102 : decode b_D_readByte 102 = .ok (.aload_n 0, 1) := by decide +kernel
theorem kd_D_readByte_103 : decode b_D_readByte 103 = .ok (.getfield 35, 3) := by decide +kernel
theorem kd_D_readByte_106 : decode b_D_readByte 106 = .ok (.ifCond .eq 7, 3) := by decide +kernel
theorem kd_D_readByte_109 : decode b_D_readByte 109 = .ok (.iconst 2, 1) := by decide +kernel
theorem kd_D_readByte_110 : decode b_D_readByte 110 = .ok (.goto 4, 3) := by decide +kernel
theorem kd_D_readByte_113 : decode b_D_readByte 113 = .ok (.iconst 0, 1) := by decide +kernel
theorem kd_D_readByte_114 : decode b_D_readByte 114 = .ok (.ior, 1) := by decide +kernel
theorem kd_D_readByte_115 : decode b_D_readByte 115 = .ok (.aload_n 0, 1) := by decide +kernel
theorem kd_D_readByte_116 : decode b_D_readByte 116 = .ok (.getfield 38, 3) := by decide +kernel
theorem kd_D_readByte_119 : decode b_D_readByte 119 = .ok (.ifCond .ne 7, 3) := by decide +kernel
theorem kd_D_readByte_122 : decode b_D_readByte 122 = .ok (.iconst 4, 1) := by decide +kernel
theorem kd_D_readByte_123 : decode b_D_readByte 123 = .ok (.goto 4, 3) := by decide +kernel
theorem kd_D_readByte_126 : decode b_D_readByte 126 = .ok (.iconst 0, 1) := by decide +kernel
theorem kd_D_readByte_127 : decode b_D_readByte 127 = .ok (.ior, 1) := by decide +kernel
theorem kd_D_readByte_128 : decode b_D_readByte 128 = .ok (.ireturn, 1) := by decide +kernel
theorem kd_D_readByte_129 : decode b_D_readByte 129 = .ok (.iconst 0, 1) := by decide +kernel
theorem kd_D_readByte_130 : decode b_D_readByte 130 = .ok (.ireturn, 1) := by decide +kernel
noncomputable def f_D_readByte_65 (s0 : ZS) (t0 : Int32) (t1 : Int32) : Option (Int32 × ZS) :=
  some (t1 ||| t0, s0)
noncomputable def f_D_readByte_53 (s0 : ZS) (t0 : Int32) : Option (Int32 × ZS) :=
  if (s0 0 3) = 0 then
    f_D_readByte_65 s0 0 t0
  else
    f_D_readByte_65 s0 2 t0
noncomputable def f_D_readByte_82 (s0 : ZS) (t0 : Int32) : Option (Int32 × ZS) :=
  zs_nm (zs_up s0 0 4 0) fun s1 =>
  some (t0, s1)
noncomputable def f_D_readByte_127 (s0 : ZS) (t0 : Int32) (t1 : Int32) : Option (Int32 × ZS) :=
  some (t1 ||| t0, s0)
noncomputable def f_D_readByte_114 (s0 : ZS) (t0 : Int32) (t1 : Int32) : Option (Int32 × ZS) :=
  if (s0 0 7) = 0 then
    f_D_readByte_127 s0 4 ((t1 ||| t0))
  else
    f_D_readByte_127 s0 0 ((t1 ||| t0))
noncomputable def f_D_readByte_102 (s0 : ZS) (t0 : Int32) : Option (Int32 × ZS) :=
  if (s0 0 6) = 0 then
    f_D_readByte_114 s0 0 t0
  else
    f_D_readByte_114 s0 2 t0
noncomputable def f_D_readByte (s0 : ZS) (x1 : Int32) : Option (Int32 × ZS) :=
  if x1 = 61440 then
    some ((s0 0 1) &&& 255, s0)
  else if x1 = 61441 then
    if (s0 0 2) = 0 then
      f_D_readByte_53 s0 0
    else
      f_D_readByte_53 s0 1
  else if x1 = 61442 then
    if (s0 0 4) = 0 then
      f_D_readByte_82 s0 0
    else
      f_D_readByte_82 s0 ((s0 0 5))
  else if x1 = 61443 then
    if (s0 0 4) = 0 then
      f_D_readByte_102 s0 0
    else
      f_D_readByte_102 s0 1
  else 
    some (0, s0)
theorem j_D_readByte_65 {P : ZP} {E : ZE} {A : Nat → Prop} (X : ZX E (zcV P) A "FrameMachine$Devices" b_D_readByte 3 (some .int) 0 0) (s0 : ZS) (t0 : Int32) (t1 : Int32) : ZJ E (zcV P) A 3 (zFi E (zcV P) A) 65 [] [.int t0, .int t1] s0 (f_D_readByte_65 s0 t0 t1) := by
  unfold f_D_readByte_65
  refine zj_ior 66 X kd_D_readByte_65 rfl ?_
  exact zj_iret X kd_D_readByte_66
theorem j_D_readByte_53 {P : ZP} {E : ZE} {A : Nat → Prop} (X : ZX E (zcV P) A "FrameMachine$Devices" b_D_readByte 3 (some .int) 0 0) (s0 : ZS) (t0 : Int32) : ZJ E (zcV P) A 3 (zFi E (zcV P) A) 53 [(0, .ref (P.1 1))] [.int t0] s0 (f_D_readByte_53 s0 t0) := by
  unfold f_D_readByte_53
  refine zj_aload_n 54 0 X kd_D_readByte_53 rfl rfl rfl ?_
  refine gf_D_26 57 X kd_D_readByte_54 rfl ?_
  refine zj_if_eq 64 60 X kd_D_readByte_57 rfl rfl (fun _ => ?_) (fun _ => ?_)
  · refine zj_iconst 65 0 X kd_D_readByte_64 ki_0 rfl ?_
    refine zj_loc [] (L2 := []) rfl ?_
    exact j_D_readByte_65 X s0 0 t0
  · refine zj_iconst 61 2 X kd_D_readByte_60 ki_2 rfl ?_
    refine zj_goto 65 X kd_D_readByte_61 rfl ?_
    refine zj_loc [] (L2 := []) rfl ?_
    exact j_D_readByte_65 X s0 2 t0
theorem j_D_readByte_82 {P : ZP} {E : ZE} {A : Nat → Prop} (X : ZX E (zcV P) A "FrameMachine$Devices" b_D_readByte 3 (some .int) 0 0) (s0 : ZS) (t0 : Int32) : ZJ E (zcV P) A 3 (zFi E (zcV P) A) 82 [(0, .ref (P.1 1))] [.int t0] s0 (f_D_readByte_82 s0 t0) := by
  unfold f_D_readByte_82
  refine zj_istore_n 83 [(2, .int t0), (0, .ref (P.1 1))] X kd_D_readByte_82 rfl (Nat.le_of_ble_eq_true rfl) rfl rfl ?_
  refine zj_aload_n 84 1 X kd_D_readByte_83 rfl rfl rfl ?_
  refine zj_iconst 85 0 X kd_D_readByte_84 ki_0 rfl ?_
  refine pf_D_29 88 X kd_D_readByte_85 (Or.inl rfl) rfl ?_
  refine zj_nms (fun s1 => ?_)
  refine zj_iload_n 89 0 X kd_D_readByte_88 rfl rfl rfl ?_
  exact zj_iret X kd_D_readByte_89
theorem j_D_readByte_127 {P : ZP} {E : ZE} {A : Nat → Prop} (X : ZX E (zcV P) A "FrameMachine$Devices" b_D_readByte 3 (some .int) 0 0) (s0 : ZS) (t0 : Int32) (t1 : Int32) : ZJ E (zcV P) A 3 (zFi E (zcV P) A) 127 [] [.int t0, .int t1] s0 (f_D_readByte_127 s0 t0 t1) := by
  unfold f_D_readByte_127
  refine zj_ior 128 X kd_D_readByte_127 rfl ?_
  exact zj_iret X kd_D_readByte_128
theorem j_D_readByte_114 {P : ZP} {E : ZE} {A : Nat → Prop} (X : ZX E (zcV P) A "FrameMachine$Devices" b_D_readByte 3 (some .int) 0 0) (s0 : ZS) (t0 : Int32) (t1 : Int32) : ZJ E (zcV P) A 3 (zFi E (zcV P) A) 114 [(0, .ref (P.1 1))] [.int t0, .int t1] s0 (f_D_readByte_114 s0 t0 t1) := by
  unfold f_D_readByte_114
  refine zj_ior 115 X kd_D_readByte_114 rfl ?_
  refine zj_aload_n 116 0 X kd_D_readByte_115 rfl rfl rfl ?_
  refine gf_D_38 119 X kd_D_readByte_116 rfl ?_
  refine zj_if_ne 126 122 X kd_D_readByte_119 rfl rfl (fun _ => ?_) (fun _ => ?_)
  · refine zj_iconst 123 4 X kd_D_readByte_122 ki_4 rfl ?_
    refine zj_goto 127 X kd_D_readByte_123 rfl ?_
    refine zj_loc [] (L2 := []) rfl ?_
    exact j_D_readByte_127 X s0 4 ((t1 ||| t0))
  · refine zj_iconst 127 0 X kd_D_readByte_126 ki_0 rfl ?_
    refine zj_loc [] (L2 := []) rfl ?_
    exact j_D_readByte_127 X s0 0 ((t1 ||| t0))
theorem j_D_readByte_102 {P : ZP} {E : ZE} {A : Nat → Prop} (X : ZX E (zcV P) A "FrameMachine$Devices" b_D_readByte 3 (some .int) 0 0) (s0 : ZS) (t0 : Int32) : ZJ E (zcV P) A 3 (zFi E (zcV P) A) 102 [(0, .ref (P.1 1))] [.int t0] s0 (f_D_readByte_102 s0 t0) := by
  unfold f_D_readByte_102
  refine zj_aload_n 103 0 X kd_D_readByte_102 rfl rfl rfl ?_
  refine gf_D_35 106 X kd_D_readByte_103 rfl ?_
  refine zj_if_eq 113 109 X kd_D_readByte_106 rfl rfl (fun _ => ?_) (fun _ => ?_)
  · refine zj_iconst 114 0 X kd_D_readByte_113 ki_0 rfl ?_
    exact j_D_readByte_114 X s0 0 t0
  · refine zj_iconst 110 2 X kd_D_readByte_109 ki_2 rfl ?_
    refine zj_goto 114 X kd_D_readByte_110 rfl ?_
    exact j_D_readByte_114 X s0 2 t0
theorem j_D_readByte {P : ZP} {E : ZE} {A : Nat → Prop} (X : ZX E (zcV P) A "FrameMachine$Devices" b_D_readByte 3 (some .int) 0 0) (s0 : ZS) (x1 : Int32) : ZJ E (zcV P) A 3 (zFi E (zcV P) A) 0 [(0, .ref (P.1 1)), (1, .int x1)] [] s0 (f_D_readByte s0 x1) := by
  unfold f_D_readByte
  refine zj_iload_n 1 1 X kd_D_readByte_0 rfl rfl rfl ?_
  refine zj_tcase 32 X kd_D_readByte_1 (by decide) (by decide) rfl rfl (fun _ => ?_) (fun h0 => ?_)
  · refine zj_aload_n 33 0 X kd_D_readByte_32 rfl rfl rfl ?_
    refine gf_D_15 36 X kd_D_readByte_33 rfl ?_
    refine zj_sipush 39 255 X kd_D_readByte_36 ks_255 rfl ?_
    refine zj_iand 40 X kd_D_readByte_39 rfl ?_
    exact zj_iret X kd_D_readByte_40
  refine zj_tcase 41 X kd_D_readByte_1 (by decide) (by decide) rfl rfl (fun _ => ?_) (fun h1 => ?_)
  · refine zj_aload_n 42 0 X kd_D_readByte_41 rfl rfl rfl ?_
    refine gf_D_22 45 X kd_D_readByte_42 rfl ?_
    refine zj_if_eq 52 48 X kd_D_readByte_45 rfl rfl (fun _ => ?_) (fun _ => ?_)
    · refine zj_iconst 53 0 X kd_D_readByte_52 ki_0 rfl ?_
      refine zj_loc [0] (L2 := [(0, .ref (P.1 1))]) rfl ?_
      exact j_D_readByte_53 X s0 0
    · refine zj_iconst 49 1 X kd_D_readByte_48 ki_1 rfl ?_
      refine zj_goto 53 X kd_D_readByte_49 rfl ?_
      refine zj_loc [0] (L2 := [(0, .ref (P.1 1))]) rfl ?_
      exact j_D_readByte_53 X s0 1
  refine zj_tcase 67 X kd_D_readByte_1 (by decide) (by decide) rfl rfl (fun _ => ?_) (fun h2 => ?_)
  · refine zj_aload_n 68 0 X kd_D_readByte_67 rfl rfl rfl ?_
    refine gf_D_29 71 X kd_D_readByte_68 rfl ?_
    refine zj_if_eq 81 74 X kd_D_readByte_71 rfl rfl (fun _ => ?_) (fun _ => ?_)
    · refine zj_iconst 82 0 X kd_D_readByte_81 ki_0 rfl ?_
      refine zj_loc [0] (L2 := [(0, .ref (P.1 1))]) rfl ?_
      exact j_D_readByte_82 X s0 0
    · refine zj_aload_n 75 0 X kd_D_readByte_74 rfl rfl rfl ?_
      refine gf_D_32 78 X kd_D_readByte_75 rfl ?_
      refine zj_goto 82 X kd_D_readByte_78 rfl ?_
      refine zj_loc [0] (L2 := [(0, .ref (P.1 1))]) rfl ?_
      exact j_D_readByte_82 X s0 ((s0 0 5))
  refine zj_tcase 90 X kd_D_readByte_1 (by decide) (by decide) rfl rfl (fun _ => ?_) (fun h3 => ?_)
  · refine zj_aload_n 91 0 X kd_D_readByte_90 rfl rfl rfl ?_
    refine gf_D_29 94 X kd_D_readByte_91 rfl ?_
    refine zj_if_eq 101 97 X kd_D_readByte_94 rfl rfl (fun _ => ?_) (fun _ => ?_)
    · refine zj_iconst 102 0 X kd_D_readByte_101 ki_0 rfl ?_
      refine zj_loc [0] (L2 := [(0, .ref (P.1 1))]) rfl ?_
      exact j_D_readByte_102 X s0 0
    · refine zj_iconst 98 1 X kd_D_readByte_97 ki_1 rfl ?_
      refine zj_goto 102 X kd_D_readByte_98 rfl ?_
      refine zj_loc [0] (L2 := [(0, .ref (P.1 1))]) rfl ?_
      exact j_D_readByte_102 X s0 1
  refine zj_tdef 129 X kd_D_readByte_1 (by have h0 := lv_neT (a := 61440) h0 rfl; have h1 := lv_neT (a := 61441) h1 rfl; have h2 := lv_neT (a := 61442) h2 rfl; have h3 := lv_neT (a := 61443) h3 rfl; omega) rfl ?_
  refine zj_iconst 130 0 X kd_D_readByte_129 ki_0 rfl ?_
  exact zj_iret X kd_D_readByte_130
theorem c_D_readByte {l : Launch} {P : ZP} (hV : ZVok (zcV P)) (s0 : ZS) (x1 : Int32) {z : Int32 × ZS} (h : f_D_readByte s0 x1 = some z) : zMi l y_D_readByte b_D_readByte 3 (some .int) 0 0 (zcV P) s0 [.ref (P.1 1), .int x1] z :=
  zMi_of (by decide +kernel) rfl rfl (Nat.le_of_ble_eq_true rfl) hV (fun _ X => j_D_readByte X s0 x1) h
theorem kc_B_23 : zCV "FrameMachine$Bus" 23 y_D_readByte b_D_readByte 3 (some .int) 1 := ⟨⟨kw_333, kw_334, kw_335, kw_2, kw_336⟩, by decide +kernel, by decide +kernel, by decide +kernel⟩
theorem mc_B_23 {ρ : Type} {E : ZE} {P : ZP} {A : Nat → Prop} {cc : ByteArray} {nL : Nat} {ret : Option FieldType} {fr lo : Nat} {F : ρ → State → Prop} {pc : Nat} {L : List (Nat × Value)} {rest : List Value} {σ : ZS} {x1 : Int32} {K : Int32 × ZS → Option ρ} (q : Nat) (X : ZX E (zcV P) A "FrameMachine$Bus" cc nL ret fr lo) (d : decode cc pc = .ok (.invokevirtual 23, 3)) (hfr : 0 + 1 ≤ fr) (hlo : 8 + (3 + 11) + 0 ≤ lo) (hr : (rest.map fun v => v.category).sum ≤ 8) (hq : pc + 3 = q) (kk : ∀ p : Int32 × ZS, ZJ E (zcV P) A nL F q L (.int p.1 :: rest) p.2 (K p)) : ZJ E (zcV P) A nL F pc L (.int x1 :: .ref (P.1 1) :: rest) σ ((f_D_readByte σ x1).bind K) :=
  zj_cVi q 1 1 (As := [.int x1]) (rest := rest) X kc_B_23 hfr hlo (fun p h => c_D_readByte (zx_v X) σ x1 h) rfl rfl rfl hr d hq kk
-- FrameMachine$Bus.read(II)I
theorem kd_B_read_0 : decode b_B_read 0 = .ok (.aload_n 0, 1) := by decide +kernel
theorem kd_B_read_1 : decode b_B_read 1 = .ok (.iload_n 1, 1) := by decide +kernel
theorem kd_B_read_2 : decode b_B_read 2 = .ok (.iload_n 2, 1) := by decide +kernel
theorem kd_B_read_3 : decode b_B_read 3 = .ok (.iconst 1, 1) := by decide +kernel
theorem kd_B_read_4 : decode b_B_read 4 = .ok (.invokevirtual 19, 3) := by decide +kernel
theorem kd_B_read_7 : decode b_B_read 7 = .ok (.ifCond .eq 5, 3) := by decide +kernel
theorem kd_B_read_10 : decode b_B_read 10 = .ok (.iconst 0, 1) := by decide +kernel
theorem kd_B_read_11 : decode b_B_read 11 = .ok (.ireturn, 1) := by decide +kernel
theorem kd_B_read_12 : decode b_B_read 12 = .ok (.iload_n 1, 1) := by decide +kernel
theorem kd_B_read_13 : decode b_B_read 13 = .ok (.sipush 1024, 3) := by decide +kernel
theorem kd_B_read_16 : decode b_B_read 16 = .ok (.if_icmp .lt 12, 3) := by decide +kernel
theorem kd_B_read_19 : decode b_B_read 19 = .ok (.aload_n 0, 1) := by decide +kernel
theorem kd_B_read_20 : decode b_B_read 20 = .ok (.getfield 15, 3) := by decide +kernel
theorem kd_B_read_23 : decode b_B_read 23 = .ok (.iload_n 1, 1) := by decide +kernel
theorem kd_B_read_24 : decode b_B_read 24 = .ok (.invokevirtual 23, 3) := by decide +kernel
theorem kd_B_read_27 : decode b_B_read 27 = .ok (.ireturn, 1) := by decide +kernel
theorem kd_B_read_28 : decode b_B_read 28 = .ok (.iconst 0, 1) := by decide +kernel
theorem kd_B_read_29 : decode b_B_read 29 = .ok (.istore_n 3, 1) := by decide +kernel
theorem kd_B_read_30 : decode b_B_read 30 = .ok (.iconst 0, 1) := by decide +kernel
theorem kd_B_read_31 : decode b_B_read 31 = .ok (.istore 4, 2) := by decide +kernel
theorem kd_B_read_33 : decode b_B_read 33 = .ok (.iload 4, 2) := by decide +kernel
theorem kd_B_read_35 : decode b_B_read 35 = .ok (.iconst 1, 1) := by decide +kernel
theorem kd_B_read_36 : decode b_B_read 36 = .ok (.iload_n 2, 1) := by decide +kernel
theorem kd_B_read_37 : decode b_B_read 37 = .ok (.ishl, 1) := by decide +kernel
theorem kd_B_read_38 : decode b_B_read 38 = .ok (.if_icmp .ge 28, 3) := by decide +kernel
theorem kd_B_read_41 : decode b_B_read 41 = .ok (.iload_n 3, 1) := by decide +kernel
theorem kd_B_read_42 : decode b_B_read 42 = .ok (.bipush 8, 2) := by decide +kernel
theorem kd_B_read_44 : decode b_B_read 44 = .ok (.ishl, 1) := by decide +kernel
theorem kd_B_read_45 : decode b_B_read 45 = .ok (.aload_n 0, 1) := by decide +kernel
theorem kd_B_read_46 : decode b_B_read 46 = .ok (.getfield 9, 3) := by decide +kernel
theorem kd_B_read_49 : decode b_B_read 49 = .ok (.iload_n 1, 1) := by decide +kernel
theorem kd_B_read_50 : decode b_B_read 50 = .ok (.iload 4, 2) := by decide +kernel
theorem kd_B_read_52 : decode b_B_read 52 = .ok (.iadd, 1) := by decide +kernel
theorem kd_B_read_53 : decode b_B_read 53 = .ok (.baload, 1) := by decide +kernel
theorem kd_B_read_54 : decode b_B_read 54 = .ok (.sipush 255, 3) := by decide +kernel
theorem kd_B_read_57 : decode b_B_read 57 = .ok (.iand, 1) := by decide +kernel
theorem kd_B_read_58 : decode b_B_read 58 = .ok (.ior, 1) := by decide +kernel
theorem kd_B_read_59 : decode b_B_read 59 = .ok (.istore_n 3, 1) := by decide +kernel
theorem kd_B_read_60 : decode b_B_read 60 = .ok (.iinc 4 1, 3) := by decide +kernel
theorem kd_B_read_63 : decode b_B_read 63 = .ok (.goto (-30), 3) := by decide +kernel
theorem kd_B_read_66 : decode b_B_read 66 = .ok (.iload_n 3, 1) := by decide +kernel
theorem kd_B_read_67 : decode b_B_read 67 = .ok (.ireturn, 1) := by decide +kernel
noncomputable def f_B_read_33 : Nat → ZS → Int32 → Int32 → Int32 → Int32 → Option (Int32 × ZS)
  | 0, _, _, _, _, _ => none
  | n+1, s0, l1, l2, l3, l4 =>
    if (zo_shl 1 l2) ≤ l4 then
      some (l3, s0)
    else
      zs_nm (l1 + l4) fun v2 =>
      if v2 < 0 ∨ 1024 ≤ v2.toNatClampNeg then none else
      zs_nm ((zo_shl l3 8) ||| ((s0 1 v2.toNatClampNeg) &&& 255)) fun v3 =>
      zs_nm (l4 + 1) fun v4 =>
      (f_B_read_33 n) s0 l1 l2 v3 v4
noncomputable def f_B_read (s0 : ZS) (x1 : Int32) (x2 : Int32) : Option (Int32 × ZS) :=
  (f_B_fails s0 x1 x2 1).bind fun p1 =>
  if p1.1 = 0 then
    if x1 < 1024 then
      f_B_read_33 20 p1.2 x1 x2 0 0
    else
      (f_D_readByte p1.2 x1).bind fun p5 =>
      some (p5.1, p5.2)
  else
    some (0, p1.2)
theorem j_B_read_33 {P : ZP} {E : ZE} {A : Nat → Prop} (X : ZX E (zcV P) A "FrameMachine$Bus" b_B_read 5 (some .int) 1 25) : ∀ (n : Nat) (s0 : ZS) (l1 : Int32) (l2 : Int32) (l3 : Int32) (l4 : Int32), ZJ E (zcV P) A 5 (zFi E (zcV P) A) 33 [(0, .ref (P.1 2)), (1, .int l1), (2, .int l2), (3, .int l3), (4, .int l4)] [] s0 (f_B_read_33 n s0 l1 l2 l3 l4) := by
  intro n
  induction n with
  | zero => intro s0 l1 l2 l3 l4; rw [f_B_read_33]; exact zj_none
  | succ n hK =>
    intro s0 l1 l2 l3 l4
    rw [f_B_read_33]
    refine zj_iload 35 4 X kd_B_read_33 rfl rfl ?_
    refine zj_iconst 36 1 X kd_B_read_35 ki_1 rfl ?_
    refine zj_iload_n 37 2 X kd_B_read_36 rfl rfl rfl ?_
    refine zj_ishl 38 X kd_B_read_37 rfl ?_
    refine zj_icmp_ge 66 41 X kd_B_read_38 rfl rfl (fun _ => ?_) (fun _ => ?_)
    · refine zj_iload_n 67 3 X kd_B_read_66 rfl rfl rfl ?_
      exact zj_iret X kd_B_read_67
    · refine zj_iload_n 42 3 X kd_B_read_41 rfl rfl rfl ?_
      refine zj_bipush 44 8 X kd_B_read_42 kb_8 rfl ?_
      refine zj_ishl 45 X kd_B_read_44 rfl ?_
      refine zj_aload_n 46 0 X kd_B_read_45 rfl rfl rfl ?_
      refine gf_B_9 49 X kd_B_read_46 rfl ?_
      refine zj_iload_n 50 1 X kd_B_read_49 rfl rfl rfl ?_
      refine zj_iload 52 4 X kd_B_read_50 rfl rfl ?_
      refine zj_iadd 53 X kd_B_read_52 rfl ?_
      refine zj_nmi (fun v2 => ?_)
      refine zj_ng (fun hg => ?_)
      refine al_C_1 54 X kd_B_read_53 hg rfl ?_
      refine zj_sipush 57 255 X kd_B_read_54 ks_255 rfl ?_
      refine zj_iand 58 X kd_B_read_57 rfl ?_
      refine zj_ior 59 X kd_B_read_58 rfl ?_
      refine zj_nmi (fun v3 => ?_)
      refine zj_istore_n 60 [(3, .int v3), (0, .ref (P.1 2)), (1, .int l1), (2, .int l2), (4, .int l4)] X kd_B_read_59 rfl (Nat.le_of_ble_eq_true rfl) rfl rfl ?_
      refine zj_iinc 63 4 1 (fun v4 => [(4, .int v4), (3, .int v3), (0, .ref (P.1 2)), (1, .int l1), (2, .int l2)]) X kd_B_read_60 ki_1 rfl (Nat.le_of_ble_eq_true rfl) (fun _ => rfl) rfl (fun v4 => ?_)
      refine zj_goto 33 X kd_B_read_63 rfl ?_
      refine zj_loc [2, 3, 4, 1, 0] (L2 := [(0, .ref (P.1 2)), (1, .int l1), (2, .int l2), (3, .int v3), (4, .int v4)]) rfl ?_
      exact hK s0 l1 l2 v3 v4
theorem j_B_read {P : ZP} {E : ZE} {A : Nat → Prop} (X : ZX E (zcV P) A "FrameMachine$Bus" b_B_read 5 (some .int) 1 25) (s0 : ZS) (x1 : Int32) (x2 : Int32) : ZJ E (zcV P) A 5 (zFi E (zcV P) A) 0 [(0, .ref (P.1 2)), (1, .int x1), (2, .int x2)] [] s0 (f_B_read s0 x1 x2) := by
  unfold f_B_read
  refine zj_aload_n 1 0 X kd_B_read_0 rfl rfl rfl ?_
  refine zj_iload_n 2 1 X kd_B_read_1 rfl rfl rfl ?_
  refine zj_iload_n 3 2 X kd_B_read_2 rfl rfl rfl ?_
  refine zj_iconst 4 1 X kd_B_read_3 ki_1 rfl ?_
  refine mc_B_19 7 X kd_B_read_4 (Nat.le_of_ble_eq_true rfl) (Nat.le_of_ble_eq_true rfl) (Nat.le_of_ble_eq_true rfl) rfl (fun p1 => ?_)
  refine zj_if_eq 12 10 X kd_B_read_7 rfl rfl (fun _ => ?_) (fun _ => ?_)
  · refine zj_iload_n 13 1 X kd_B_read_12 rfl rfl rfl ?_
    refine zj_sipush 16 1024 X kd_B_read_13 ks_1024 rfl ?_
    refine zj_icmp_lt 28 19 X kd_B_read_16 rfl rfl (fun _ => ?_) (fun _ => ?_)
    · refine zj_iconst 29 0 X kd_B_read_28 ki_0 rfl ?_
      refine zj_istore_n 30 [(3, .int 0), (0, .ref (P.1 2)), (1, .int x1), (2, .int x2)] X kd_B_read_29 rfl (Nat.le_of_ble_eq_true rfl) rfl rfl ?_
      refine zj_iconst 31 0 X kd_B_read_30 ki_0 rfl ?_
      refine zj_istore 33 [(4, .int 0), (3, .int 0), (0, .ref (P.1 2)), (1, .int x1), (2, .int x2)] X kd_B_read_31 (Nat.le_of_ble_eq_true rfl) rfl rfl ?_
      refine zj_loc [2, 3, 4, 1, 0] (L2 := [(0, .ref (P.1 2)), (1, .int x1), (2, .int x2), (3, .int 0), (4, .int 0)]) rfl ?_
      exact j_B_read_33 X 20 p1.2 x1 x2 0 0
    · refine zj_aload_n 20 0 X kd_B_read_19 rfl rfl rfl ?_
      refine gf_B_15 23 X kd_B_read_20 rfl ?_
      refine zj_iload_n 24 1 X kd_B_read_23 rfl rfl rfl ?_
      refine mc_B_23 27 X kd_B_read_24 (Nat.le_of_ble_eq_true rfl) (Nat.le_of_ble_eq_true rfl) (Nat.le_of_ble_eq_true rfl) rfl (fun p5 => ?_)
      exact zj_iret X kd_B_read_27
  · refine zj_iconst 11 0 X kd_B_read_10 ki_0 rfl ?_
    exact zj_iret X kd_B_read_11
theorem c_B_read {l : Launch} {P : ZP} (hV : ZVok (zcV P)) (s0 : ZS) (x1 : Int32) (x2 : Int32) {z : Int32 × ZS} (h : f_B_read s0 x1 x2 = some z) : zMi l y_B_read b_B_read 5 (some .int) 1 25 (zcV P) s0 [.ref (P.1 2), .int x1, .int x2] z :=
  zMi_of (by decide +kernel) rfl rfl (Nat.le_of_ble_eq_true rfl) hV (fun _ X => j_B_read X s0 x1 x2) h
theorem kc_F_73 : zCV "FrameMachine" 73 y_B_read b_B_read 5 (some .int) 2 := ⟨⟨kw_323, kw_324, kw_325, kw_3, kw_326⟩, by decide +kernel, by decide +kernel, by decide +kernel⟩
theorem mc_F_73 {ρ : Type} {E : ZE} {P : ZP} {A : Nat → Prop} {cc : ByteArray} {nL : Nat} {ret : Option FieldType} {fr lo : Nat} {F : ρ → State → Prop} {pc : Nat} {L : List (Nat × Value)} {rest : List Value} {σ : ZS} {x1 : Int32} {x2 : Int32} {K : Int32 × ZS → Option ρ} (q : Nat) (X : ZX E (zcV P) A "FrameMachine" cc nL ret fr lo) (d : decode cc pc = .ok (.invokevirtual 73, 3)) (hfr : 1 + 1 ≤ fr) (hlo : 8 + (5 + 11) + 25 ≤ lo) (hr : (rest.map fun v => v.category).sum ≤ 8) (hq : pc + 3 = q) (kk : ∀ p : Int32 × ZS, ZJ E (zcV P) A nL F q L (.int p.1 :: rest) p.2 (K p)) : ZJ E (zcV P) A nL F pc L (.int x2 :: .int x1 :: .ref (P.1 2) :: rest) σ ((f_B_read σ x1 x2).bind K) :=
  zj_cVi q 2 2 (As := [.int x1, .int x2]) (rest := rest) X kc_F_73 hfr hlo (fun p h => c_B_read (zx_v X) σ x1 x2 h) rfl rfl rfl hr d hq kk
theorem kc_E_72 : zCV "FrameMachine$Exceptions" 72 y_B_read b_B_read 5 (some .int) 2 := ⟨⟨kw_515, kw_324, kw_325, kw_3, kw_326⟩, by decide +kernel, by decide +kernel, by decide +kernel⟩
theorem mc_E_72 {ρ : Type} {E : ZE} {P : ZP} {A : Nat → Prop} {cc : ByteArray} {nL : Nat} {ret : Option FieldType} {fr lo : Nat} {F : ρ → State → Prop} {pc : Nat} {L : List (Nat × Value)} {rest : List Value} {σ : ZS} {x1 : Int32} {x2 : Int32} {K : Int32 × ZS → Option ρ} (q : Nat) (X : ZX E (zcV P) A "FrameMachine$Exceptions" cc nL ret fr lo) (d : decode cc pc = .ok (.invokevirtual 72, 3)) (hfr : 1 + 1 ≤ fr) (hlo : 8 + (5 + 11) + 25 ≤ lo) (hr : (rest.map fun v => v.category).sum ≤ 8) (hq : pc + 3 = q) (kk : ∀ p : Int32 × ZS, ZJ E (zcV P) A nL F q L (.int p.1 :: rest) p.2 (K p)) : ZJ E (zcV P) A nL F pc L (.int x2 :: .int x1 :: .ref (P.1 2) :: rest) σ ((f_B_read σ x1 x2).bind K) :=
  zj_cVi q 2 2 (As := [.int x1, .int x2]) (rest := rest) X kc_E_72 hfr hlo (fun p h => c_B_read (zx_v X) σ x1 x2 h) rfl rfl rfl hr d hq kk
theorem kc_O_71 : zCV "FrameMachine$Operand" 71 y_B_read b_B_read 5 (some .int) 2 := ⟨⟨kw_594, kw_324, kw_325, kw_3, kw_326⟩, by decide +kernel, by decide +kernel, by decide +kernel⟩
theorem mc_O_71 {ρ : Type} {E : ZE} {P : ZP} {A : Nat → Prop} {cc : ByteArray} {nL : Nat} {ret : Option FieldType} {fr lo : Nat} {F : ρ → State → Prop} {pc : Nat} {L : List (Nat × Value)} {rest : List Value} {σ : ZS} {x1 : Int32} {x2 : Int32} {K : Int32 × ZS → Option ρ} (q : Nat) (X : ZX E (zcV P) A "FrameMachine$Operand" cc nL ret fr lo) (d : decode cc pc = .ok (.invokevirtual 71, 3)) (hfr : 1 + 1 ≤ fr) (hlo : 8 + (5 + 11) + 25 ≤ lo) (hr : (rest.map fun v => v.category).sum ≤ 8) (hq : pc + 3 = q) (kk : ∀ p : Int32 × ZS, ZJ E (zcV P) A nL F q L (.int p.1 :: rest) p.2 (K p)) : ZJ E (zcV P) A nL F pc L (.int x2 :: .int x1 :: .ref (P.1 2) :: rest) σ ((f_B_read σ x1 x2).bind K) :=
  zj_cVi q 2 2 (As := [.int x1, .int x2]) (rest := rest) X kc_O_71 hfr hlo (fun p h => c_B_read (zx_v X) σ x1 x2 h) rfl rfl rfl hr d hq kk
theorem kc_Q_25 : zCV "FrameMachine$Pointers" 25 y_B_read b_B_read 5 (some .int) 2 := ⟨⟨kw_529, kw_324, kw_325, kw_3, kw_326⟩, by decide +kernel, by decide +kernel, by decide +kernel⟩
theorem mc_Q_25 {ρ : Type} {E : ZE} {P : ZP} {A : Nat → Prop} {cc : ByteArray} {nL : Nat} {ret : Option FieldType} {fr lo : Nat} {F : ρ → State → Prop} {pc : Nat} {L : List (Nat × Value)} {rest : List Value} {σ : ZS} {x1 : Int32} {x2 : Int32} {K : Int32 × ZS → Option ρ} (q : Nat) (X : ZX E (zcV P) A "FrameMachine$Pointers" cc nL ret fr lo) (d : decode cc pc = .ok (.invokevirtual 25, 3)) (hfr : 1 + 1 ≤ fr) (hlo : 8 + (5 + 11) + 25 ≤ lo) (hr : (rest.map fun v => v.category).sum ≤ 8) (hq : pc + 3 = q) (kk : ∀ p : Int32 × ZS, ZJ E (zcV P) A nL F q L (.int p.1 :: rest) p.2 (K p)) : ZJ E (zcV P) A nL F pc L (.int x2 :: .int x1 :: .ref (P.1 2) :: rest) σ ((f_B_read σ x1 x2).bind K) :=
  zj_cVi q 2 2 (As := [.int x1, .int x2]) (rest := rest) X kc_Q_25 hfr hlo (fun p h => c_B_read (zx_v X) σ x1 x2 h) rfl rfl rfl hr d hq kk
