-- FrameMachine$Pointers.pop(I)I
theorem kd_Q_pop_0 : decode b_Q_pop 0 = .ok (.aload_n 0, 1) := by decide +kernel
theorem kd_Q_pop_1 : decode b_Q_pop 1 = .ok (.getfield 9, 3) := by decide +kernel
theorem kd_Q_pop_4 : decode b_Q_pop 4 = .ok (.aload_n 0, 1) := by decide +kernel
theorem kd_Q_pop_5 : decode b_Q_pop 5 = .ok (.getfield 15, 3) := by decide +kernel
theorem kd_Q_pop_8 : decode b_Q_pop 8 = .ok (.getfield 38, 3) := by decide +kernel
theorem kd_Q_pop_11 : decode b_Q_pop 11 = .ok (.bipush 7, 2) := by decide +kernel
theorem kd_Q_pop_13 : decode b_Q_pop 13 = .ok (.iaload, 1) := by decide +kernel
theorem kd_Q_pop_14 : decode b_Q_pop 14 = .ok (.iload_n 1, 1) := by decide +kernel
theorem kd_Q_pop_15 : decode b_Q_pop 15 = .ok (.invokevirtual 25, 3) := by decide +kernel
theorem kd_Q_pop_18 : decode b_Q_pop 18 = .ok (.istore_n 2, 1) := by decide +kernel
theorem kd_Q_pop_19 : decode b_Q_pop 19 = .ok (.aload_n 0, 1) := by decide +kernel
theorem kd_Q_pop_20 : decode b_Q_pop 20 = .ok (.getfield 9, 3) := by decide +kernel
theorem kd_Q_pop_23 : decode b_Q_pop 23 = .ok (.getfield 31, 3) := by decide +kernel
theorem kd_Q_pop_26 : decode b_Q_pop 26 = .ok (.ifCond .ne 19, 3) := by decide +kernel
theorem kd_Q_pop_29 : decode b_Q_pop 29 = .ok (.aload_n 0, 1) := by decide +kernel
theorem kd_Q_pop_30 : decode b_Q_pop 30 = .ok (.getfield 15, 3) := by decide +kernel
theorem kd_Q_pop_33 : decode b_Q_pop 33 = .ok (.getfield 38, 3) := by decide +kernel
theorem kd_Q_pop_36 : decode b_Q_pop 36 = .ok (.bipush 7, 2) := by decide +kernel
theorem kd_Q_pop_38 : decode b_Q_pop 38 = .ok (.dup2, 1) := by decide +kernel
theorem kd_Q_pop_39 : decode b_Q_pop 39 = .ok (.iaload, 1) := by decide +kernel
theorem kd_Q_pop_40 : decode b_Q_pop 40 = .ok (.iconst 1, 1) := by decide +kernel
theorem kd_Q_pop_41 : decode b_Q_pop 41 = .ok (.iload_n 1, 1) := by decide +kernel
theorem kd_Q_pop_42 : decode b_Q_pop 42 = .ok (.ishl, 1) := by decide +kernel
theorem kd_Q_pop_43 : decode b_Q_pop 43 = .ok (.iadd, 1) := by decide +kernel
theorem kd_Q_pop_44 : decode b_Q_pop 44 = .ok (.iastore, 1) := by decide +kernel
theorem kd_Q_pop_45 : decode b_Q_pop 45 = .ok (.iload_n 2, 1) := by decide +kernel
theorem kd_Q_pop_46 : decode b_Q_pop 46 = .ok (.ireturn, 1) := by decide +kernel
noncomputable def f_Q_pop (s0 : ZS) (x1 : Int32) : Option (Int32 × ZS) :=
  if (7 : Int32) < 0 ∨ 8 ≤ (7 : Int32).toNatClampNeg then none else
  (f_B_read s0 (s0 3 (7 : Int32).toNatClampNeg) x1).bind fun p1 =>
  if (p1.2 0 10) = 0 then
    if (7 : Int32) < 0 ∨ 8 ≤ (7 : Int32).toNatClampNeg then none else
    if (7 : Int32) < 0 ∨ 8 ≤ (7 : Int32).toNatClampNeg then none else
    zs_nm (zs_up p1.2 3 (7 : Int32).toNatClampNeg ((p1.2 3 (7 : Int32).toNatClampNeg) + (zo_shl 1 x1))) fun s2 =>
    some (p1.1, s2)
  else
    some (p1.1, p1.2)
theorem j_Q_pop {P : ZP} {E : ZE} {A : Nat → Prop} (X : ZX E (zcV P) A "FrameMachine$Pointers" b_Q_pop 3 (some .int) 2 49) (s0 : ZS) (x1 : Int32) : ZJ E (zcV P) A 3 (zFi E (zcV P) A) 0 [(0, .ref (P.1 4)), (1, .int x1)] [] s0 (f_Q_pop s0 x1) := by
  unfold f_Q_pop
  refine zj_aload_n 1 0 X kd_Q_pop_0 rfl rfl rfl ?_
  refine gf_Q_9 4 X kd_Q_pop_1 rfl ?_
  refine zj_aload_n 5 0 X kd_Q_pop_4 rfl rfl rfl ?_
  refine gf_Q_15 8 X kd_Q_pop_5 rfl ?_
  refine gf_Q_38 11 X kd_Q_pop_8 rfl ?_
  refine zj_bipush 13 7 X kd_Q_pop_11 kb_7 rfl ?_
  refine zj_ng (fun hg => ?_)
  refine al_C_3 14 X kd_Q_pop_13 hg rfl ?_
  refine zj_iload_n 15 1 X kd_Q_pop_14 rfl rfl rfl ?_
  refine mc_Q_25 18 X kd_Q_pop_15 (Nat.le_of_ble_eq_true rfl) (Nat.le_of_ble_eq_true rfl) (Nat.le_of_ble_eq_true rfl) rfl (fun p1 => ?_)
  refine zj_istore_n 19 [(2, .int p1.1), (0, .ref (P.1 4)), (1, .int x1)] X kd_Q_pop_18 rfl (Nat.le_of_ble_eq_true rfl) rfl rfl ?_
  refine zj_aload_n 20 1 X kd_Q_pop_19 rfl rfl rfl ?_
  refine gf_Q_9 23 X kd_Q_pop_20 rfl ?_
  refine gf_Q_31 26 X kd_Q_pop_23 rfl ?_
  refine zj_if_ne 45 29 X kd_Q_pop_26 rfl rfl (fun _ => ?_) (fun _ => ?_)
  · refine zj_aload_n 30 1 X kd_Q_pop_29 rfl rfl rfl ?_
    refine gf_Q_15 33 X kd_Q_pop_30 rfl ?_
    refine gf_Q_38 36 X kd_Q_pop_33 rfl ?_
    refine zj_bipush 38 7 X kd_Q_pop_36 kb_7 rfl ?_
    refine zj_dup2 39 X kd_Q_pop_38 rfl rfl rfl ?_
    refine zj_ng (fun hg => ?_)
    refine al_C_3 40 X kd_Q_pop_39 hg rfl ?_
    refine zj_iconst 41 1 X kd_Q_pop_40 ki_1 rfl ?_
    refine zj_iload_n 42 2 X kd_Q_pop_41 rfl rfl rfl ?_
    refine zj_ishl 43 X kd_Q_pop_42 rfl ?_
    refine zj_iadd 44 X kd_Q_pop_43 rfl ?_
    refine zj_ng (fun hg => ?_)
    refine as_C_3 45 X kd_Q_pop_44 hg rfl ?_
    refine zj_nms (fun s2 => ?_)
    refine zj_iload_n 46 0 X kd_Q_pop_45 rfl rfl rfl ?_
    exact zj_iret X kd_Q_pop_46
  · refine zj_iload_n 46 0 X kd_Q_pop_45 rfl rfl rfl ?_
    exact zj_iret X kd_Q_pop_46
theorem c_Q_pop {l : Launch} {P : ZP} (hV : ZVok (zcV P)) (s0 : ZS) (x1 : Int32) {z : Int32 × ZS} (h : f_Q_pop s0 x1 = some z) : zMi l y_Q_pop b_Q_pop 3 (some .int) 2 49 (zcV P) s0 [.ref (P.1 4), .int x1] z :=
  zMi_of (by decide +kernel) rfl rfl (Nat.le_of_ble_eq_true rfl) hV (fun _ X => j_Q_pop X s0 x1) h
theorem kc_P_276 : zCV "FrameMachine$Processor" 276 y_Q_pop b_Q_pop 3 (some .int) 1 := ⟨⟨kw_717, kw_718, kw_719, kw_5, kw_720⟩, by decide +kernel, by decide +kernel, by decide +kernel⟩
theorem mc_P_276 {ρ : Type} {E : ZE} {P : ZP} {A : Nat → Prop} {cc : ByteArray} {nL : Nat} {ret : Option FieldType} {fr lo : Nat} {F : ρ → State → Prop} {pc : Nat} {L : List (Nat × Value)} {rest : List Value} {σ : ZS} {x1 : Int32} {K : Int32 × ZS → Option ρ} (q : Nat) (X : ZX E (zcV P) A "FrameMachine$Processor" cc nL ret fr lo) (d : decode cc pc = .ok (.invokevirtual 276, 3)) (hfr : 2 + 1 ≤ fr) (hlo : 8 + (3 + 11) + 49 ≤ lo) (hr : (rest.map fun v => v.category).sum ≤ 8) (hq : pc + 3 = q) (kk : ∀ p : Int32 × ZS, ZJ E (zcV P) A nL F q L (.int p.1 :: rest) p.2 (K p)) : ZJ E (zcV P) A nL F pc L (.int x1 :: .ref (P.1 4) :: rest) σ ((f_Q_pop σ x1).bind K) :=
  zj_cVi q 4 4 (As := [.int x1]) (rest := rest) X kc_P_276 hfr hlo (fun p h => c_Q_pop (zx_v X) σ x1 h) rfl rfl rfl hr d hq kk
-- FrameMachine$Processor.comeBack()V
theorem kd_P_comeBack_0 : decode b_P_comeBack 0 = .ok (.aload_n 0, 1) := by decide +kernel
theorem kd_P_comeBack_1 : decode b_P_comeBack 1 = .ok (.getfield 26, 3) := by decide +kernel
theorem kd_P_comeBack_4 : decode b_P_comeBack 4 = .ok (.iconst 2, 1) := by decide +kernel
theorem kd_P_comeBack_5 : decode b_P_comeBack 5 = .ok (.invokevirtual 276, 3) := by decide +kernel
theorem kd_P_comeBack_8 : decode b_P_comeBack 8 = .ok (.istore_n 1, 1) := by decide +kernel
theorem kd_P_comeBack_9 : decode b_P_comeBack 9 = .ok (.aload_n 0, 1) := by decide +kernel
theorem kd_P_comeBack_10 : decode b_P_comeBack 10 = .ok (.getfield 18, 3) := by decide +kernel
theorem kd_P_comeBack_13 : decode b_P_comeBack 13 = .ok (.getfield 117, 3) := by decide +kernel
theorem kd_P_comeBack_16 : decode b_P_comeBack 16 = .ok (.ifCond .ne 11, 3) := by decide +kernel
theorem kd_P_comeBack_19 : decode b_P_comeBack 19 = .ok (.aload_n 0, 1) := by decide +kernel
theorem kd_P_comeBack_20 : decode b_P_comeBack 20 = .ok (.getfield 22, 3) := by decide +kernel
theorem kd_P_comeBack_23 : decode b_P_comeBack 23 = .ok (.iload_n 1, 1) := by decide +kernel
theorem kd_P_comeBack_24 : decode b_P_comeBack 24 = .ok (.putfield 85, 3) := by decide +kernel
theorem kd_P_comeBack_27 : decode b_P_comeBack 27 = .ok (.return_, 1) := by decide +kernel
noncomputable def f_P_comeBack (s0 : ZS)  : Option (ZS) :=
  (f_Q_pop s0 2).bind fun p1 =>
  if (p1.2 0 10) = 0 then
    zs_nm (zs_up p1.2 0 14 p1.1) fun s2 =>
    some s2
  else
    some p1.2
theorem j_P_comeBack {P : ZP} {E : ZE} {A : Nat → Prop} (X : ZX E (zcV P) A "FrameMachine$Processor" b_P_comeBack 2 none 3 71) (s0 : ZS)  : ZJ E (zcV P) A 2 (zFv E (zcV P) A) 0 [(0, .ref (P.1 6))] [] s0 (f_P_comeBack s0) := by
  unfold f_P_comeBack
  refine zj_aload_n 1 0 X kd_P_comeBack_0 rfl rfl rfl ?_
  refine gf_P_26 4 X kd_P_comeBack_1 rfl ?_
  refine zj_iconst 5 2 X kd_P_comeBack_4 ki_2 rfl ?_
  refine mc_P_276 8 X kd_P_comeBack_5 (Nat.le_of_ble_eq_true rfl) (Nat.le_of_ble_eq_true rfl) (Nat.le_of_ble_eq_true rfl) rfl (fun p1 => ?_)
  refine zj_istore_n 9 [(1, .int p1.1), (0, .ref (P.1 6))] X kd_P_comeBack_8 rfl (Nat.le_of_ble_eq_true rfl) rfl rfl ?_
  refine zj_aload_n 10 1 X kd_P_comeBack_9 rfl rfl rfl ?_
  refine gf_P_18 13 X kd_P_comeBack_10 rfl ?_
  refine gf_P_117 16 X kd_P_comeBack_13 rfl ?_
  refine zj_if_ne 27 19 X kd_P_comeBack_16 rfl rfl (fun _ => ?_) (fun _ => ?_)
  · refine zj_aload_n 20 1 X kd_P_comeBack_19 rfl rfl rfl ?_
    refine gf_P_22 23 X kd_P_comeBack_20 rfl ?_
    refine zj_iload_n 24 0 X kd_P_comeBack_23 rfl rfl rfl ?_
    refine pf_P_85 27 X kd_P_comeBack_24 rfl ?_
    refine zj_nms (fun s2 => ?_)
    exact zj_vret X kd_P_comeBack_27
  · exact zj_vret X kd_P_comeBack_27
theorem c_P_comeBack {l : Launch} {P : ZP} (hV : ZVok (zcV P)) (s0 : ZS)  {z : ZS} (h : f_P_comeBack s0  = some z) : zMv l y_P_comeBack b_P_comeBack 2 none 3 71 (zcV P) s0 [.ref (P.1 6)] z :=
  zMv_of (by decide +kernel) rfl rfl (Nat.le_of_ble_eq_true rfl) hV (fun _ X => j_P_comeBack X s0 ) h
theorem kc_P_267 : zCV "FrameMachine$Processor" 267 y_P_comeBack b_P_comeBack 2 none 0 := ⟨⟨kw_713, kw_715, ksel_23, kw_7, kw_716⟩, by decide +kernel, by decide +kernel, by decide +kernel⟩
theorem mc_P_267 {ρ : Type} {E : ZE} {P : ZP} {A : Nat → Prop} {cc : ByteArray} {nL : Nat} {ret : Option FieldType} {fr lo : Nat} {F : ρ → State → Prop} {pc : Nat} {L : List (Nat × Value)} {rest : List Value} {σ : ZS}  {K : ZS → Option ρ} (q : Nat) (X : ZX E (zcV P) A "FrameMachine$Processor" cc nL ret fr lo) (d : decode cc pc = .ok (.invokevirtual 267, 3)) (hfr : 3 + 1 ≤ fr) (hlo : 8 + (2 + 11) + 71 ≤ lo) (hr : (rest.map fun v => v.category).sum ≤ 8) (hq : pc + 3 = q) (kk : ∀ p : ZS, ZJ E (zcV P) A nL F q L (rest) p (K p)) : ZJ E (zcV P) A nL F pc L (.ref (P.1 6) :: rest) σ ((f_P_comeBack σ ).bind K) :=
  zj_cVv q 6 6 (As := []) (rest := rest) X kc_P_267 hfr hlo (fun p h => c_P_comeBack (zx_v X) σ  h) rfl rfl rfl hr d hq kk
-- FrameMachine$Processor.comeBackFromException()V
theorem kd_P_comeBackFromException_0 : decode b_P_comeBackFromException 0 = .ok (.aload_n 0, 1) := by decide +kernel
theorem kd_P_comeBackFromException_1 : decode b_P_comeBackFromException 1 = .ok (.getfield 26, 3) := by decide +kernel
theorem kd_P_comeBackFromException_4 : decode b_P_comeBackFromException 4 = .ok (.iconst 1, 1) := by decide +kernel
theorem kd_P_comeBackFromException_5 : decode b_P_comeBackFromException 5 = .ok (.invokevirtual 276, 3) := by decide +kernel
theorem kd_P_comeBackFromException_8 : decode b_P_comeBackFromException 8 = .ok (.istore_n 1, 1) := by decide +kernel
theorem kd_P_comeBackFromException_9 : decode b_P_comeBackFromException 9 = .ok (.aload_n 0, 1) := by decide +kernel
theorem kd_P_comeBackFromException_10 : decode b_P_comeBackFromException 10 = .ok (.getfield 18, 3) := by decide +kernel
theorem kd_P_comeBackFromException_13 : decode b_P_comeBackFromException 13 = .ok (.getfield 117, 3) := by decide +kernel
theorem kd_P_comeBackFromException_16 : decode b_P_comeBackFromException 16 = .ok (.ifCond .ne 14, 3) := by decide +kernel
theorem kd_P_comeBackFromException_19 : decode b_P_comeBackFromException 19 = .ok (.aload_n 0, 1) := by decide +kernel
theorem kd_P_comeBackFromException_20 : decode b_P_comeBackFromException 20 = .ok (.getfield 26, 3) := by decide +kernel
theorem kd_P_comeBackFromException_23 : decode b_P_comeBackFromException 23 = .ok (.iconst 2, 1) := by decide +kernel
theorem kd_P_comeBackFromException_24 : decode b_P_comeBackFromException 24 = .ok (.invokevirtual 276, 3) := by decide +kernel
theorem kd_P_comeBackFromException_27 : decode b_P_comeBackFromException 27 = .ok (.goto 4, 3) := by decide +kernel
theorem kd_P_comeBackFromException_30 : decode b_P_comeBackFromException 30 = .ok (.iconst 0, 1) := by decide +kernel
theorem kd_P_comeBackFromException_31 : decode b_P_comeBackFromException 31 = .ok (.istore_n 2, 1) := by decide +kernel
theorem kd_P_comeBackFromException_32 : decode b_P_comeBackFromException 32 = .ok (.aload_n 0, 1) := by decide +kernel
theorem kd_P_comeBackFromException_33 : decode b_P_comeBackFromException 33 = .ok (.getfield 18, 3) := by decide +kernel
theorem kd_P_comeBackFromException_36 : decode b_P_comeBackFromException 36 = .ok (.getfield 117, 3) := by decide +kernel
theorem kd_P_comeBackFromException_39 : decode b_P_comeBackFromException 39 = .ok (.ifCond .ne 19, 3) := by decide +kernel
theorem kd_P_comeBackFromException_42 : decode b_P_comeBackFromException 42 = .ok (.aload_n 0, 1) := by decide +kernel
theorem kd_P_comeBackFromException_43 : decode b_P_comeBackFromException 43 = .ok (.getfield 22, 3) := by decide +kernel
theorem kd_P_comeBackFromException_46 : decode b_P_comeBackFromException 46 = .ok (.iload_n 2, 1) := by decide +kernel
theorem kd_P_comeBackFromException_47 : decode b_P_comeBackFromException 47 = .ok (.putfield 85, 3) := by decide +kernel
theorem kd_P_comeBackFromException_50 : decode b_P_comeBackFromException 50 = .ok (.aload_n 0, 1) := by decide +kernel
theorem kd_P_comeBackFromException_51 : decode b_P_comeBackFromException 51 = .ok (.getfield 22, 3) := by decide +kernel
theorem kd_P_comeBackFromException_54 : decode b_P_comeBackFromException 54 = .ok (.iload_n 1, 1) := by decide +kernel
theorem kd_P_comeBackFromException_55 : decode b_P_comeBackFromException 55 = .ok (.invokevirtual 237, 3) := by decide +kernel
theorem kd_P_comeBackFromException_58 : decode b_P_comeBackFromException 58 = .ok (.return_, 1) := by decide +kernel
noncomputable def f_P_comeBackFromException_31 (s0 : ZS) (l1 : Int32) (t0 : Int32) : Option (ZS) :=
  if (s0 0 10) = 0 then
    zs_nm (zs_up s0 0 14 t0) fun s2 =>
    (f_G_changeStatus s2 l1).bind fun s3 =>
    some s3
  else
    some s0
noncomputable def f_P_comeBackFromException (s0 : ZS)  : Option (ZS) :=
  (f_Q_pop s0 1).bind fun p1 =>
  if (p1.2 0 10) = 0 then
    (f_Q_pop p1.2 2).bind fun p4 =>
    f_P_comeBackFromException_31 p4.2 p1.1 p4.1
  else
    f_P_comeBackFromException_31 p1.2 p1.1 0
theorem j_P_comeBackFromException_31 {P : ZP} {E : ZE} {A : Nat → Prop} (X : ZX E (zcV P) A "FrameMachine$Processor" b_P_comeBackFromException 3 none 3 71) (s0 : ZS) (l1 : Int32) (t0 : Int32) : ZJ E (zcV P) A 3 (zFv E (zcV P) A) 31 [(0, .ref (P.1 6)), (1, .int l1)] [.int t0] s0 (f_P_comeBackFromException_31 s0 l1 t0) := by
  unfold f_P_comeBackFromException_31
  refine zj_istore_n 32 [(2, .int t0), (0, .ref (P.1 6)), (1, .int l1)] X kd_P_comeBackFromException_31 rfl (Nat.le_of_ble_eq_true rfl) rfl rfl ?_
  refine zj_aload_n 33 1 X kd_P_comeBackFromException_32 rfl rfl rfl ?_
  refine gf_P_18 36 X kd_P_comeBackFromException_33 rfl ?_
  refine gf_P_117 39 X kd_P_comeBackFromException_36 rfl ?_
  refine zj_if_ne 58 42 X kd_P_comeBackFromException_39 rfl rfl (fun _ => ?_) (fun _ => ?_)
  · refine zj_aload_n 43 1 X kd_P_comeBackFromException_42 rfl rfl rfl ?_
    refine gf_P_22 46 X kd_P_comeBackFromException_43 rfl ?_
    refine zj_iload_n 47 0 X kd_P_comeBackFromException_46 rfl rfl rfl ?_
    refine pf_P_85 50 X kd_P_comeBackFromException_47 rfl ?_
    refine zj_nms (fun s2 => ?_)
    refine zj_aload_n 51 1 X kd_P_comeBackFromException_50 rfl rfl rfl ?_
    refine gf_P_22 54 X kd_P_comeBackFromException_51 rfl ?_
    refine zj_iload_n 55 2 X kd_P_comeBackFromException_54 rfl rfl rfl ?_
    refine mc_P_237 58 X kd_P_comeBackFromException_55 (Nat.le_of_ble_eq_true rfl) (Nat.le_of_ble_eq_true rfl) (Nat.le_of_ble_eq_true rfl) rfl (fun s3 => ?_)
    exact zj_vret X kd_P_comeBackFromException_58
  · exact zj_vret X kd_P_comeBackFromException_58
theorem j_P_comeBackFromException {P : ZP} {E : ZE} {A : Nat → Prop} (X : ZX E (zcV P) A "FrameMachine$Processor" b_P_comeBackFromException 3 none 3 71) (s0 : ZS)  : ZJ E (zcV P) A 3 (zFv E (zcV P) A) 0 [(0, .ref (P.1 6))] [] s0 (f_P_comeBackFromException s0) := by
  unfold f_P_comeBackFromException
  refine zj_aload_n 1 0 X kd_P_comeBackFromException_0 rfl rfl rfl ?_
  refine gf_P_26 4 X kd_P_comeBackFromException_1 rfl ?_
  refine zj_iconst 5 1 X kd_P_comeBackFromException_4 ki_1 rfl ?_
  refine mc_P_276 8 X kd_P_comeBackFromException_5 (Nat.le_of_ble_eq_true rfl) (Nat.le_of_ble_eq_true rfl) (Nat.le_of_ble_eq_true rfl) rfl (fun p1 => ?_)
  refine zj_istore_n 9 [(1, .int p1.1), (0, .ref (P.1 6))] X kd_P_comeBackFromException_8 rfl (Nat.le_of_ble_eq_true rfl) rfl rfl ?_
  refine zj_aload_n 10 1 X kd_P_comeBackFromException_9 rfl rfl rfl ?_
  refine gf_P_18 13 X kd_P_comeBackFromException_10 rfl ?_
  refine gf_P_117 16 X kd_P_comeBackFromException_13 rfl ?_
  refine zj_if_ne 30 19 X kd_P_comeBackFromException_16 rfl rfl (fun _ => ?_) (fun _ => ?_)
  · refine zj_aload_n 20 1 X kd_P_comeBackFromException_19 rfl rfl rfl ?_
    refine gf_P_26 23 X kd_P_comeBackFromException_20 rfl ?_
    refine zj_iconst 24 2 X kd_P_comeBackFromException_23 ki_2 rfl ?_
    refine mc_P_276 27 X kd_P_comeBackFromException_24 (Nat.le_of_ble_eq_true rfl) (Nat.le_of_ble_eq_true rfl) (Nat.le_of_ble_eq_true rfl) rfl (fun p4 => ?_)
    refine zj_goto 31 X kd_P_comeBackFromException_27 rfl ?_
    refine zj_loc [1, 0] (L2 := [(0, .ref (P.1 6)), (1, .int p1.1)]) rfl ?_
    exact j_P_comeBackFromException_31 X p4.2 p1.1 p4.1
  · refine zj_iconst 31 0 X kd_P_comeBackFromException_30 ki_0 rfl ?_
    refine zj_loc [1, 0] (L2 := [(0, .ref (P.1 6)), (1, .int p1.1)]) rfl ?_
    exact j_P_comeBackFromException_31 X p1.2 p1.1 0
theorem c_P_comeBackFromException {l : Launch} {P : ZP} (hV : ZVok (zcV P)) (s0 : ZS)  {z : ZS} (h : f_P_comeBackFromException s0  = some z) : zMv l y_P_comeBackFromException b_P_comeBackFromException 3 none 3 71 (zcV P) s0 [.ref (P.1 6)] z :=
  zMv_of (by decide +kernel) rfl rfl (Nat.le_of_ble_eq_true rfl) hV (fun _ X => j_P_comeBackFromException X s0 ) h
theorem kc_P_270 : zCV "FrameMachine$Processor" 270 y_P_comeBackFromException b_P_comeBackFromException 3 none 0 := ⟨⟨kw_721, kw_723, ksel_24, kw_7, kw_724⟩, by decide +kernel, by decide +kernel, by decide +kernel⟩
theorem mc_P_270 {ρ : Type} {E : ZE} {P : ZP} {A : Nat → Prop} {cc : ByteArray} {nL : Nat} {ret : Option FieldType} {fr lo : Nat} {F : ρ → State → Prop} {pc : Nat} {L : List (Nat × Value)} {rest : List Value} {σ : ZS}  {K : ZS → Option ρ} (q : Nat) (X : ZX E (zcV P) A "FrameMachine$Processor" cc nL ret fr lo) (d : decode cc pc = .ok (.invokevirtual 270, 3)) (hfr : 3 + 1 ≤ fr) (hlo : 8 + (3 + 11) + 71 ≤ lo) (hr : (rest.map fun v => v.category).sum ≤ 8) (hq : pc + 3 = q) (kk : ∀ p : ZS, ZJ E (zcV P) A nL F q L (rest) p (K p)) : ZJ E (zcV P) A nL F pc L (.ref (P.1 6) :: rest) σ ((f_P_comeBackFromException σ ).bind K) :=
  zj_cVv q 6 6 (As := []) (rest := rest) X kc_P_270 hfr hlo (fun p h => c_P_comeBackFromException (zx_v X) σ  h) rfl rfl rfl hr d hq kk
-- FrameMachine$Processor.stop()V
theorem kd_P_stop_0 : decode b_P_stop 0 = .ok (.aload_n 0, 1) := by decide +kernel
theorem kd_P_stop_1 : decode b_P_stop 1 = .ok (.getfield 26, 3) := by decide +kernel
theorem kd_P_stop_4 : decode b_P_stop 4 = .ok (.invokevirtual 126, 3) := by decide +kernel
theorem kd_P_stop_7 : decode b_P_stop 7 = .ok (.istore_n 1, 1) := by decide +kernel
theorem kd_P_stop_8 : decode b_P_stop 8 = .ok (.aload_n 0, 1) := by decide +kernel
theorem kd_P_stop_9 : decode b_P_stop 9 = .ok (.getfield 18, 3) := by decide +kernel
theorem kd_P_stop_12 : decode b_P_stop 12 = .ok (.getfield 117, 3) := by decide +kernel
theorem kd_P_stop_15 : decode b_P_stop 15 = .ok (.ifCond .ne 16, 3) := by decide +kernel
theorem kd_P_stop_18 : decode b_P_stop 18 = .ok (.aload_n 0, 1) := by decide +kernel
theorem kd_P_stop_19 : decode b_P_stop 19 = .ok (.getfield 22, 3) := by decide +kernel
theorem kd_P_stop_22 : decode b_P_stop 22 = .ok (.iload_n 1, 1) := by decide +kernel
theorem kd_P_stop_23 : decode b_P_stop 23 = .ok (.invokevirtual 237, 3) := by decide +kernel
theorem kd_P_stop_26 : decode b_P_stop 26 = .ok (.aload_n 0, 1) := by decide +kernel
theorem kd_P_stop_27 : decode b_P_stop 27 = .ok (.iconst 1, 1) := by decide +kernel
theorem kd_P_stop_28 : decode b_P_stop 28 = .ok (.putfield 82, 3) := by decide +kernel
theorem kd_P_stop_31 : decode b_P_stop 31 = .ok (.return_, 1) := by decide +kernel
noncomputable def f_P_stop (s0 : ZS)  : Option (ZS) :=
  (f_Q_nextWord s0 ).bind fun p1 =>
  if (p1.2 0 10) = 0 then
    (f_G_changeStatus p1.2 p1.1).bind fun s2 =>
    zs_nm (zs_up s2 0 20 1) fun s3 =>
    some s3
  else
    some p1.2
theorem j_P_stop {P : ZP} {E : ZE} {A : Nat → Prop} (X : ZX E (zcV P) A "FrameMachine$Processor" b_P_stop 2 none 3 70) (s0 : ZS)  : ZJ E (zcV P) A 2 (zFv E (zcV P) A) 0 [(0, .ref (P.1 6))] [] s0 (f_P_stop s0) := by
  unfold f_P_stop
  refine zj_aload_n 1 0 X kd_P_stop_0 rfl rfl rfl ?_
  refine gf_P_26 4 X kd_P_stop_1 rfl ?_
  refine mc_P_126 7 X kd_P_stop_4 (Nat.le_of_ble_eq_true rfl) (Nat.le_of_ble_eq_true rfl) (Nat.le_of_ble_eq_true rfl) rfl (fun p1 => ?_)
  refine zj_istore_n 8 [(1, .int p1.1), (0, .ref (P.1 6))] X kd_P_stop_7 rfl (Nat.le_of_ble_eq_true rfl) rfl rfl ?_
  refine zj_aload_n 9 1 X kd_P_stop_8 rfl rfl rfl ?_
  refine gf_P_18 12 X kd_P_stop_9 rfl ?_
  refine gf_P_117 15 X kd_P_stop_12 rfl ?_
  refine zj_if_ne 31 18 X kd_P_stop_15 rfl rfl (fun _ => ?_) (fun _ => ?_)
  · refine zj_aload_n 19 1 X kd_P_stop_18 rfl rfl rfl ?_
    refine gf_P_22 22 X kd_P_stop_19 rfl ?_
    refine zj_iload_n 23 0 X kd_P_stop_22 rfl rfl rfl ?_
    refine mc_P_237 26 X kd_P_stop_23 (Nat.le_of_ble_eq_true rfl) (Nat.le_of_ble_eq_true rfl) (Nat.le_of_ble_eq_true rfl) rfl (fun s2 => ?_)
    refine zj_aload_n 27 1 X kd_P_stop_26 rfl rfl rfl ?_
    refine zj_iconst 28 1 X kd_P_stop_27 ki_1 rfl ?_
    refine pf_P_82 31 X kd_P_stop_28 (Or.inr rfl) rfl ?_
    refine zj_nms (fun s3 => ?_)
    exact zj_vret X kd_P_stop_31
  · exact zj_vret X kd_P_stop_31
theorem c_P_stop {l : Launch} {P : ZP} (hV : ZVok (zcV P)) (s0 : ZS)  {z : ZS} (h : f_P_stop s0  = some z) : zMv l y_P_stop b_P_stop 2 none 3 70 (zcV P) s0 [.ref (P.1 6)] z :=
  zMv_of (by decide +kernel) rfl rfl (Nat.le_of_ble_eq_true rfl) hV (fun _ X => j_P_stop X s0 ) h
theorem kc_P_273 : zCV "FrameMachine$Processor" 273 y_P_stop b_P_stop 2 none 0 := ⟨⟨kw_726, kw_728, ksel_25, kw_7, kw_729⟩, by decide +kernel, by decide +kernel, by decide +kernel⟩
theorem mc_P_273 {ρ : Type} {E : ZE} {P : ZP} {A : Nat → Prop} {cc : ByteArray} {nL : Nat} {ret : Option FieldType} {fr lo : Nat} {F : ρ → State → Prop} {pc : Nat} {L : List (Nat × Value)} {rest : List Value} {σ : ZS}  {K : ZS → Option ρ} (q : Nat) (X : ZX E (zcV P) A "FrameMachine$Processor" cc nL ret fr lo) (d : decode cc pc = .ok (.invokevirtual 273, 3)) (hfr : 3 + 1 ≤ fr) (hlo : 8 + (2 + 11) + 70 ≤ lo) (hr : (rest.map fun v => v.category).sum ≤ 8) (hq : pc + 3 = q) (kk : ∀ p : ZS, ZJ E (zcV P) A nL F q L (rest) p (K p)) : ZJ E (zcV P) A nL F pc L (.ref (P.1 6) :: rest) σ ((f_P_stop σ ).bind K) :=
  zj_cVv q 6 6 (As := []) (rest := rest) X kc_P_273 hfr hlo (fun p h => c_P_stop (zx_v X) σ  h) rfl rfl rfl hr d hq kk
-- FrameMachine$Processor.control()V
theorem kd_P_control_0 : decode b_P_control 0 = .ok (.aload_n 0, 1) := by decide +kernel
theorem kd_P_control_1 : decode b_P_control 1 = .ok (.getfield 12, 3) := by decide +kernel
theorem kd_P_control_4 : decode b_P_control 4 = .ok (.getfield 231, 3) := by decide +kernel
theorem kd_P_control_7 : decode b_P_control 7 = .ok (.tableswitch 74 1 4 #[29, 36, 43, 50], 29) := by decide +kernel
theorem kd_P_control_36 : decode b_P_control 36 = .ok (.aload_n 0, 1) := by decide +kernel
theorem kd_P_control_37 : decode b_P_control 37 = .ok (.invokevirtual 267, 3) := by decide +kernel
theorem kd_P_control_40 : decode b_P_control 40 = .ok (.goto 41, 3) := by decide +kernel
theorem kd_P_control_43 : decode b_P_control 43 = .ok (.aload_n 0, 1) := by decide +kernel
theorem kd_P_control_44 : decode b_P_control 44 = .ok (.invokevirtual 270, 3) := by decide +kernel
theorem kd_P_control_47 : decode b_P_control 47 = .ok (.goto 34, 3) := by decide +kernel
theorem kd_P_control_50 : decode b_P_control 50 = .ok (.aload_n 0, 1) := by decide +kernel
theorem kd_P_control_51 : decode b_P_control 51 = .ok (.invokevirtual 273, 3) := by decide +kernel
theorem kd_P_control_54 : decode b_P_control 54 = .ok (.goto 27, 3) := by decide +kernel
theorem kd_P_control_57 : decode b_P_control 57 = .ok (.aload_n 0, 1) := by decide +kernel
theorem kd_P_control_58 : decode b_P_control 58 = .ok (.aload_n 0, 1) := by decide +kernel
theorem kd_P_control_59 : decode b_P_control 59 = .ok (.getfield 22, 3) := by decide +kernel
theorem kd_P_control_62 : decode b_P_control 62 = .ok (.iconst 2, 1) := by decide +kernel
theorem kd_P_control_63 : decode b_P_control 63 = .ok (.invokevirtual 93, 3) := by decide +kernel
theorem kd_P_control_66 : decode b_P_control 66 = .ok (.ifCond .eq 8, 3) := by decide +kernel
theorem kd_P_control_69 : decode b_P_control 69 = .ok (.bipush 7, 2) := by decide +kernel
theorem kd_P_control_71 : decode b_P_control 71 = .ok (.goto 4, 3) := by decide +kernel
theorem kd_P_control_74 : decode b_P_control 74 = .ok (.iconst 0, 1) := by decide +kernel
theorem kd_P_control_75 : decode b_P_control 75 = .ok (.putfield 120, 3) := by decide +kernel
theorem kd_P_control_78 : decode b_P_control 78 = .ok (.goto 3, 3) := by decide +kernel
theorem kd_P_control_81 : decode b_P_control 81 = .ok (.return_, 1) := by decide +kernel
noncomputable def f_P_control_75 (s0 : ZS) (t0 : Int32) : Option (ZS) :=
  zs_nm (zs_up s0 0 22 t0) fun s6 =>
  some s6
noncomputable def f_P_control (s0 : ZS)  : Option (ZS) :=
  zs_nm (s0 0 28) fun v1 =>
  if v1 = 1 then
    (f_P_comeBack s0 ).bind fun s2 =>
    some s2
  else if v1 = 2 then
    (f_P_comeBackFromException s0 ).bind fun s3 =>
    some s3
  else if v1 = 3 then
    (f_P_stop s0 ).bind fun s4 =>
    some s4
  else if v1 = 4 then
    (f_G_has s0 2).bind fun p5 =>
    if p5.1 = 0 then
      f_P_control_75 p5.2 0
    else
      f_P_control_75 p5.2 7
  else 
    some s0
theorem j_P_control_75 {P : ZP} {E : ZE} {A : Nat → Prop} (X : ZX E (zcV P) A "FrameMachine$Processor" b_P_control 1 none 4 93) (s0 : ZS) (t0 : Int32) : ZJ E (zcV P) A 1 (zFv E (zcV P) A) 75 [] [.int t0, .ref (P.1 6)] s0 (f_P_control_75 s0 t0) := by
  unfold f_P_control_75
  refine pf_P_120 78 X kd_P_control_75 rfl ?_
  refine zj_nms (fun s6 => ?_)
  refine zj_goto 81 X kd_P_control_78 rfl ?_
  exact zj_vret X kd_P_control_81
theorem j_P_control {P : ZP} {E : ZE} {A : Nat → Prop} (X : ZX E (zcV P) A "FrameMachine$Processor" b_P_control 1 none 4 93) (s0 : ZS)  : ZJ E (zcV P) A 1 (zFv E (zcV P) A) 0 [(0, .ref (P.1 6))] [] s0 (f_P_control s0) := by
  unfold f_P_control
  refine zj_aload_n 1 0 X kd_P_control_0 rfl rfl rfl ?_
  refine gf_P_12 4 X kd_P_control_1 rfl ?_
  refine gf_P_231 7 X kd_P_control_4 rfl ?_
  refine zj_nmi (fun v1 => ?_)
  refine zj_tcase 36 X kd_P_control_7 (by decide) (by decide) rfl rfl (fun _ => ?_) (fun h0 => ?_)
  · refine zj_aload_n 37 0 X kd_P_control_36 rfl rfl rfl ?_
    refine mc_P_267 40 X kd_P_control_37 (Nat.le_of_ble_eq_true rfl) (Nat.le_of_ble_eq_true rfl) (Nat.le_of_ble_eq_true rfl) rfl (fun s2 => ?_)
    refine zj_goto 81 X kd_P_control_40 rfl ?_
    exact zj_vret X kd_P_control_81
  refine zj_tcase 43 X kd_P_control_7 (by decide) (by decide) rfl rfl (fun _ => ?_) (fun h1 => ?_)
  · refine zj_aload_n 44 0 X kd_P_control_43 rfl rfl rfl ?_
    refine mc_P_270 47 X kd_P_control_44 (Nat.le_of_ble_eq_true rfl) (Nat.le_of_ble_eq_true rfl) (Nat.le_of_ble_eq_true rfl) rfl (fun s3 => ?_)
    refine zj_goto 81 X kd_P_control_47 rfl ?_
    exact zj_vret X kd_P_control_81
  refine zj_tcase 50 X kd_P_control_7 (by decide) (by decide) rfl rfl (fun _ => ?_) (fun h2 => ?_)
  · refine zj_aload_n 51 0 X kd_P_control_50 rfl rfl rfl ?_
    refine mc_P_273 54 X kd_P_control_51 (Nat.le_of_ble_eq_true rfl) (Nat.le_of_ble_eq_true rfl) (Nat.le_of_ble_eq_true rfl) rfl (fun s4 => ?_)
    refine zj_goto 81 X kd_P_control_54 rfl ?_
    exact zj_vret X kd_P_control_81
  refine zj_tcase 57 X kd_P_control_7 (by decide) (by decide) rfl rfl (fun _ => ?_) (fun h3 => ?_)
  · refine zj_aload_n 58 0 X kd_P_control_57 rfl rfl rfl ?_
    refine zj_aload_n 59 0 X kd_P_control_58 rfl rfl rfl ?_
    refine gf_P_22 62 X kd_P_control_59 rfl ?_
    refine zj_iconst 63 2 X kd_P_control_62 ki_2 rfl ?_
    refine mc_P_93 66 X kd_P_control_63 (Nat.le_of_ble_eq_true rfl) (Nat.le_of_ble_eq_true rfl) (Nat.le_of_ble_eq_true rfl) rfl (fun p5 => ?_)
    refine zj_if_eq 74 69 X kd_P_control_66 rfl rfl (fun _ => ?_) (fun _ => ?_)
    · refine zj_iconst 75 0 X kd_P_control_74 ki_0 rfl ?_
      refine zj_loc [] (L2 := []) rfl ?_
      exact j_P_control_75 X p5.2 0
    · refine zj_bipush 71 7 X kd_P_control_69 kb_7 rfl ?_
      refine zj_goto 75 X kd_P_control_71 rfl ?_
      refine zj_loc [] (L2 := []) rfl ?_
      exact j_P_control_75 X p5.2 7
  refine zj_tdef 81 X kd_P_control_7 (by have h0 := lv_neT (a := 1) h0 rfl; have h1 := lv_neT (a := 2) h1 rfl; have h2 := lv_neT (a := 3) h2 rfl; have h3 := lv_neT (a := 4) h3 rfl; omega) rfl ?_
  exact zj_vret X kd_P_control_81
theorem c_P_control {l : Launch} {P : ZP} (hV : ZVok (zcV P)) (s0 : ZS)  {z : ZS} (h : f_P_control s0  = some z) : zMv l y_P_control b_P_control 1 none 4 93 (zcV P) s0 [.ref (P.1 6)] z :=
  zMv_of (by decide +kernel) rfl rfl (Nat.le_of_ble_eq_true rfl) hV (fun _ X => j_P_control X s0 ) h
theorem kc_P_228 : zCV "FrameMachine$Processor" 228 y_P_control b_P_control 1 none 0 := ⟨⟨kw_709, kw_711, ksel_22, kw_7, kw_712⟩, by decide +kernel, by decide +kernel, by decide +kernel⟩
theorem mc_P_228 {ρ : Type} {E : ZE} {P : ZP} {A : Nat → Prop} {cc : ByteArray} {nL : Nat} {ret : Option FieldType} {fr lo : Nat} {F : ρ → State → Prop} {pc : Nat} {L : List (Nat × Value)} {rest : List Value} {σ : ZS}  {K : ZS → Option ρ} (q : Nat) (X : ZX E (zcV P) A "FrameMachine$Processor" cc nL ret fr lo) (d : decode cc pc = .ok (.invokevirtual 228, 3)) (hfr : 4 + 1 ≤ fr) (hlo : 8 + (1 + 11) + 93 ≤ lo) (hr : (rest.map fun v => v.category).sum ≤ 8) (hq : pc + 3 = q) (kk : ∀ p : ZS, ZJ E (zcV P) A nL F q L (rest) p (K p)) : ZJ E (zcV P) A nL F pc L (.ref (P.1 6) :: rest) σ ((f_P_control σ ).bind K) :=
  zj_cVv q 6 6 (As := []) (rest := rest) X kc_P_228 hfr hlo (fun p h => c_P_control (zx_v X) σ  h) rfl rfl rfl hr d hq kk
-- FrameMachine$Processor.exchangeOther()V
theorem kd_P_exchangeOther_0 : decode b_P_exchangeOther 0 = .ok (.aload_n 0, 1) := by decide +kernel
theorem kd_P_exchangeOther_1 : decode b_P_exchangeOther 1 = .ok (.getfield 12, 3) := by decide +kernel
theorem kd_P_exchangeOther_4 : decode b_P_exchangeOther 4 = .ok (.getfield 231, 3) := by decide +kernel
theorem kd_P_exchangeOther_7 : decode b_P_exchangeOther 7 = .ok (.bipush 7, 2) := by decide +kernel
theorem kd_P_exchangeOther_9 : decode b_P_exchangeOther 9 = .ok (.iand, 1) := by decide +kernel
theorem kd_P_exchangeOther_10 : decode b_P_exchangeOther 10 = .ok (.istore_n 1, 1) := by decide +kernel
theorem kd_P_exchangeOther_11 : decode b_P_exchangeOther 11 = .ok (.aload_n 0, 1) := by decide +kernel
theorem kd_P_exchangeOther_12 : decode b_P_exchangeOther 12 = .ok (.getfield 12, 3) := by decide +kernel
theorem kd_P_exchangeOther_15 : decode b_P_exchangeOther 15 = .ok (.getfield 234, 3) := by decide +kernel
theorem kd_P_exchangeOther_18 : decode b_P_exchangeOther 18 = .ok (.ifCond .ne 22, 3) := by decide +kernel
theorem kd_P_exchangeOther_21 : decode b_P_exchangeOther 21 = .ok (.aload_n 0, 1) := by decide +kernel
theorem kd_P_exchangeOther_22 : decode b_P_exchangeOther 22 = .ok (.getfield 22, 3) := by decide +kernel
theorem kd_P_exchangeOther_25 : decode b_P_exchangeOther 25 = .ok (.aload_n 0, 1) := by decide +kernel
theorem kd_P_exchangeOther_26 : decode b_P_exchangeOther 26 = .ok (.getfield 22, 3) := by decide +kernel
theorem kd_P_exchangeOther_29 : decode b_P_exchangeOther 29 = .ok (.getfield 179, 3) := by decide +kernel
theorem kd_P_exchangeOther_32 : decode b_P_exchangeOther 32 = .ok (.iload_n 1, 1) := by decide +kernel
theorem kd_P_exchangeOther_33 : decode b_P_exchangeOther 33 = .ok (.iaload, 1) := by decide +kernel
theorem kd_P_exchangeOther_34 : decode b_P_exchangeOther 34 = .ok (.putfield 280, 3) := by decide +kernel
theorem kd_P_exchangeOther_37 : decode b_P_exchangeOther 37 = .ok (.goto 19, 3) := by decide +kernel
theorem kd_P_exchangeOther_40 : decode b_P_exchangeOther 40 = .ok (.aload_n 0, 1) := by decide +kernel
theorem kd_P_exchangeOther_41 : decode b_P_exchangeOther 41 = .ok (.getfield 22, 3) := by decide +kernel
theorem kd_P_exchangeOther_44 : decode b_P_exchangeOther 44 = .ok (.getfield 179, 3) := by decide +kernel
theorem kd_P_exchangeOther_47 : decode b_P_exchangeOther 47 = .ok (.iload_n 1, 1) := by decide +kernel
theorem kd_P_exchangeOther_48 : decode b_P_exchangeOther 48 = .ok (.aload_n 0, 1) := by decide +kernel
theorem kd_P_exchangeOther_49 : decode b_P_exchangeOther 49 = .ok (.getfield 22, 3) := by decide +kernel
theorem kd_P_exchangeOther_52 : decode b_P_exchangeOther 52 = .ok (.getfield 280, 3) := by decide +kernel
theorem kd_P_exchangeOther_55 : decode b_P_exchangeOther 55 = .ok (.iastore, 1) := by decide +kernel
theorem kd_P_exchangeOther_56 : decode b_P_exchangeOther 56 = .ok (.return_, 1) := by decide +kernel
noncomputable def f_P_exchangeOther (s0 : ZS)  : Option (ZS) :=
  zs_nm ((s0 0 28) &&& 7) fun v1 =>
  if (s0 0 27) = 0 then
    if v1 < 0 ∨ 8 ≤ v1.toNatClampNeg then none else
    zs_nm (zs_up s0 0 13 (s0 3 v1.toNatClampNeg)) fun s3 =>
    some s3
  else
    if v1 < 0 ∨ 8 ≤ v1.toNatClampNeg then none else
    zs_nm (zs_up s0 3 v1.toNatClampNeg (s0 0 13)) fun s2 =>
    some s2
theorem j_P_exchangeOther {P : ZP} {E : ZE} {A : Nat → Prop} (X : ZX E (zcV P) A "FrameMachine$Processor" b_P_exchangeOther 2 none 0 0) (s0 : ZS)  : ZJ E (zcV P) A 2 (zFv E (zcV P) A) 0 [(0, .ref (P.1 6))] [] s0 (f_P_exchangeOther s0) := by
  unfold f_P_exchangeOther
  refine zj_aload_n 1 0 X kd_P_exchangeOther_0 rfl rfl rfl ?_
  refine gf_P_12 4 X kd_P_exchangeOther_1 rfl ?_
  refine gf_P_231 7 X kd_P_exchangeOther_4 rfl ?_
  refine zj_bipush 9 7 X kd_P_exchangeOther_7 kb_7 rfl ?_
  refine zj_iand 10 X kd_P_exchangeOther_9 rfl ?_
  refine zj_nmi (fun v1 => ?_)
  refine zj_istore_n 11 [(1, .int v1), (0, .ref (P.1 6))] X kd_P_exchangeOther_10 rfl (Nat.le_of_ble_eq_true rfl) rfl rfl ?_
  refine zj_aload_n 12 1 X kd_P_exchangeOther_11 rfl rfl rfl ?_
  refine gf_P_12 15 X kd_P_exchangeOther_12 rfl ?_
  refine gf_P_234 18 X kd_P_exchangeOther_15 rfl ?_
  refine zj_if_ne 40 21 X kd_P_exchangeOther_18 rfl rfl (fun _ => ?_) (fun _ => ?_)
  · refine zj_aload_n 22 1 X kd_P_exchangeOther_21 rfl rfl rfl ?_
    refine gf_P_22 25 X kd_P_exchangeOther_22 rfl ?_
    refine zj_aload_n 26 1 X kd_P_exchangeOther_25 rfl rfl rfl ?_
    refine gf_P_22 29 X kd_P_exchangeOther_26 rfl ?_
    refine gf_P_179 32 X kd_P_exchangeOther_29 rfl ?_
    refine zj_iload_n 33 0 X kd_P_exchangeOther_32 rfl rfl rfl ?_
    refine zj_ng (fun hg => ?_)
    refine al_C_3 34 X kd_P_exchangeOther_33 hg rfl ?_
    refine pf_P_280 37 X kd_P_exchangeOther_34 rfl ?_
    refine zj_nms (fun s3 => ?_)
    refine zj_goto 56 X kd_P_exchangeOther_37 rfl ?_
    exact zj_vret X kd_P_exchangeOther_56
  · refine zj_aload_n 41 1 X kd_P_exchangeOther_40 rfl rfl rfl ?_
    refine gf_P_22 44 X kd_P_exchangeOther_41 rfl ?_
    refine gf_P_179 47 X kd_P_exchangeOther_44 rfl ?_
    refine zj_iload_n 48 0 X kd_P_exchangeOther_47 rfl rfl rfl ?_
    refine zj_aload_n 49 1 X kd_P_exchangeOther_48 rfl rfl rfl ?_
    refine gf_P_22 52 X kd_P_exchangeOther_49 rfl ?_
    refine gf_P_280 55 X kd_P_exchangeOther_52 rfl ?_
    refine zj_ng (fun hg => ?_)
    refine as_C_3 56 X kd_P_exchangeOther_55 hg rfl ?_
    refine zj_nms (fun s2 => ?_)
    exact zj_vret X kd_P_exchangeOther_56
theorem c_P_exchangeOther {l : Launch} {P : ZP} (hV : ZVok (zcV P)) (s0 : ZS)  {z : ZS} (h : f_P_exchangeOther s0  = some z) : zMv l y_P_exchangeOther b_P_exchangeOther 2 none 0 0 (zcV P) s0 [.ref (P.1 6)] z :=
  zMv_of (by decide +kernel) rfl rfl (Nat.le_of_ble_eq_true rfl) hV (fun _ X => j_P_exchangeOther X s0 ) h
theorem kc_P_243 : zCV "FrameMachine$Processor" 243 y_P_exchangeOther b_P_exchangeOther 2 none 0 := ⟨⟨kw_730, kw_732, ksel_26, kw_7, kw_733⟩, by decide +kernel, by decide +kernel, by decide +kernel⟩
theorem mc_P_243 {ρ : Type} {E : ZE} {P : ZP} {A : Nat → Prop} {cc : ByteArray} {nL : Nat} {ret : Option FieldType} {fr lo : Nat} {F : ρ → State → Prop} {pc : Nat} {L : List (Nat × Value)} {rest : List Value} {σ : ZS}  {K : ZS → Option ρ} (q : Nat) (X : ZX E (zcV P) A "FrameMachine$Processor" cc nL ret fr lo) (d : decode cc pc = .ok (.invokevirtual 243, 3)) (hfr : 0 + 1 ≤ fr) (hlo : 8 + (2 + 11) + 0 ≤ lo) (hr : (rest.map fun v => v.category).sum ≤ 8) (hq : pc + 3 = q) (kk : ∀ p : ZS, ZJ E (zcV P) A nL F q L (rest) p (K p)) : ZJ E (zcV P) A nL F pc L (.ref (P.1 6) :: rest) σ ((f_P_exchangeOther σ ).bind K) :=
  zj_cVv q 6 6 (As := []) (rest := rest) X kc_P_243 hfr hlo (fun p h => c_P_exchangeOther (zx_v X) σ  h) rfl rfl rfl hr d hq kk
-- FrameMachine$Processor.check(II)V
theorem kd_P_check_0 : decode b_P_check 0 = .ok (.iload_n 1, 1) := by decide +kernel
theorem kd_P_check_1 : decode b_P_check 1 = .ok (.ifCond .lt 8, 3) := by decide +kernel
theorem kd_P_check_4 : decode b_P_check 4 = .ok (.iload_n 1, 1) := by decide +kernel
theorem kd_P_check_5 : decode b_P_check 5 = .ok (.iload_n 2, 1) := by decide +kernel
theorem kd_P_check_6 : decode b_P_check 6 = .ok (.if_icmp .le 27, 3) := by decide +kernel
theorem kd_P_check_9 : decode b_P_check 9 = .ok (.aload_n 0, 1) := by decide +kernel
theorem kd_P_check_10 : decode b_P_check 10 = .ok (.getfield 22, 3) := by decide +kernel
theorem kd_P_check_13 : decode b_P_check 13 = .ok (.bipush 8, 2) := by decide +kernel
theorem kd_P_check_15 : decode b_P_check 15 = .ok (.iload_n 1, 1) := by decide +kernel
theorem kd_P_check_16 : decode b_P_check 16 = .ok (.ifCond .ge 7, 3) := by decide +kernel
theorem kd_P_check_19 : decode b_P_check 19 = .ok (.iconst 1, 1) := by decide +kernel
theorem kd_P_check_20 : decode b_P_check 20 = .ok (.goto 4, 3) := by decide +kernel
theorem kd_P_check_23 : decode b_P_check 23 = .ok (.iconst 0, 1) := by decide +kernel
theorem kd_P_check_24 : decode b_P_check 24 = .ok (.invokevirtual 283, 3) := by decide +kernel
theorem kd_P_check_27 : decode b_P_check 27 = .ok (.aload_n 0, 1) := by decide +kernel
theorem kd_P_check_28 : decode b_P_check 28 = .ok (.bipush 6, 2) := by decide +kernel
theorem kd_P_check_30 : decode b_P_check 30 = .ok (.putfield 120, 3) := by decide +kernel
theorem kd_P_check_33 : decode b_P_check 33 = .ok (.return_, 1) := by decide +kernel
noncomputable def f_P_check_24 (s0 : ZS) (t0 : Int32) (t1 : Int32) : Option (ZS) :=
  (f_G_mark s0 t1 t0).bind fun s1 =>
  zs_nm (zs_up s1 0 22 6) fun s2 =>
  some s2
noncomputable def f_P_check_9 (s0 : ZS) (l1 : Int32) : Option (ZS) :=
  if 0 ≤ l1 then
    f_P_check_24 s0 0 8
  else
    f_P_check_24 s0 1 8
noncomputable def f_P_check (s0 : ZS) (x1 : Int32) (x2 : Int32) : Option (ZS) :=
  if x1 < 0 then
    f_P_check_9 s0 x1
  else
    if x1 ≤ x2 then
      some s0
    else
      f_P_check_9 s0 x1
theorem j_P_check_24 {P : ZP} {E : ZE} {A : Nat → Prop} (X : ZX E (zcV P) A "FrameMachine$Processor" b_P_check 3 none 1 22) (s0 : ZS) (t0 : Int32) (t1 : Int32) : ZJ E (zcV P) A 3 (zFv E (zcV P) A) 24 [(0, .ref (P.1 6))] [.int t0, .int t1, .ref (P.1 3)] s0 (f_P_check_24 s0 t0 t1) := by
  unfold f_P_check_24
  refine mc_P_283 27 X kd_P_check_24 (Nat.le_of_ble_eq_true rfl) (Nat.le_of_ble_eq_true rfl) (Nat.le_of_ble_eq_true rfl) rfl (fun s1 => ?_)
  refine zj_aload_n 28 0 X kd_P_check_27 rfl rfl rfl ?_
  refine zj_bipush 30 6 X kd_P_check_28 kb_6 rfl ?_
  refine pf_P_120 33 X kd_P_check_30 rfl ?_
  refine zj_nms (fun s2 => ?_)
  exact zj_vret X kd_P_check_33
theorem j_P_check_9 {P : ZP} {E : ZE} {A : Nat → Prop} (X : ZX E (zcV P) A "FrameMachine$Processor" b_P_check 3 none 1 22) (s0 : ZS) (l1 : Int32) : ZJ E (zcV P) A 3 (zFv E (zcV P) A) 9 [(0, .ref (P.1 6)), (1, .int l1)] [] s0 (f_P_check_9 s0 l1) := by
  unfold f_P_check_9
  refine zj_aload_n 10 0 X kd_P_check_9 rfl rfl rfl ?_
  refine gf_P_22 13 X kd_P_check_10 rfl ?_
  refine zj_bipush 15 8 X kd_P_check_13 kb_8 rfl ?_
  refine zj_iload_n 16 1 X kd_P_check_15 rfl rfl rfl ?_
  refine zj_if_ge 23 19 X kd_P_check_16 rfl rfl (fun _ => ?_) (fun _ => ?_)
  · refine zj_iconst 24 0 X kd_P_check_23 ki_0 rfl ?_
    refine zj_loc [0] (L2 := [(0, .ref (P.1 6))]) rfl ?_
    exact j_P_check_24 X s0 0 8
  · refine zj_iconst 20 1 X kd_P_check_19 ki_1 rfl ?_
    refine zj_goto 24 X kd_P_check_20 rfl ?_
    refine zj_loc [0] (L2 := [(0, .ref (P.1 6))]) rfl ?_
    exact j_P_check_24 X s0 1 8
theorem j_P_check {P : ZP} {E : ZE} {A : Nat → Prop} (X : ZX E (zcV P) A "FrameMachine$Processor" b_P_check 3 none 1 22) (s0 : ZS) (x1 : Int32) (x2 : Int32) : ZJ E (zcV P) A 3 (zFv E (zcV P) A) 0 [(0, .ref (P.1 6)), (1, .int x1), (2, .int x2)] [] s0 (f_P_check s0 x1 x2) := by
  unfold f_P_check
  refine zj_iload_n 1 1 X kd_P_check_0 rfl rfl rfl ?_
  refine zj_if_lt 9 4 X kd_P_check_1 rfl rfl (fun _ => ?_) (fun _ => ?_)
  · refine zj_loc [0, 1] (L2 := [(0, .ref (P.1 6)), (1, .int x1)]) rfl ?_
    exact j_P_check_9 X s0 x1
  · refine zj_iload_n 5 1 X kd_P_check_4 rfl rfl rfl ?_
    refine zj_iload_n 6 2 X kd_P_check_5 rfl rfl rfl ?_
    refine zj_icmp_le 33 9 X kd_P_check_6 rfl rfl (fun _ => ?_) (fun _ => ?_)
    · exact zj_vret X kd_P_check_33
    · refine zj_loc [0, 1] (L2 := [(0, .ref (P.1 6)), (1, .int x1)]) rfl ?_
      exact j_P_check_9 X s0 x1
theorem c_P_check {l : Launch} {P : ZP} (hV : ZVok (zcV P)) (s0 : ZS) (x1 : Int32) (x2 : Int32) {z : ZS} (h : f_P_check s0 x1 x2 = some z) : zMv l y_P_check b_P_check 3 none 1 22 (zcV P) s0 [.ref (P.1 6), .int x1, .int x2] z :=
  zMv_of (by decide +kernel) rfl rfl (Nat.le_of_ble_eq_true rfl) hV (fun _ X => j_P_check X s0 x1 x2) h
theorem kc_P_246 : zCV "FrameMachine$Processor" 246 y_P_check b_P_check 3 none 2 := ⟨⟨kw_734, kw_736, ksel_27, kw_7, kw_737⟩, by decide +kernel, by decide +kernel, by decide +kernel⟩
theorem mc_P_246 {ρ : Type} {E : ZE} {P : ZP} {A : Nat → Prop} {cc : ByteArray} {nL : Nat} {ret : Option FieldType} {fr lo : Nat} {F : ρ → State → Prop} {pc : Nat} {L : List (Nat × Value)} {rest : List Value} {σ : ZS} {x1 : Int32} {x2 : Int32} {K : ZS → Option ρ} (q : Nat) (X : ZX E (zcV P) A "FrameMachine$Processor" cc nL ret fr lo) (d : decode cc pc = .ok (.invokevirtual 246, 3)) (hfr : 1 + 1 ≤ fr) (hlo : 8 + (3 + 11) + 22 ≤ lo) (hr : (rest.map fun v => v.category).sum ≤ 8) (hq : pc + 3 = q) (kk : ∀ p : ZS, ZJ E (zcV P) A nL F q L (rest) p (K p)) : ZJ E (zcV P) A nL F pc L (.int x2 :: .int x1 :: .ref (P.1 6) :: rest) σ ((f_P_check σ x1 x2).bind K) :=
  zj_cVv q 6 6 (As := [.int x1, .int x2]) (rest := rest) X kc_P_246 hfr hlo (fun p h => c_P_check (zx_v X) σ x1 x2 h) rfl rfl rfl hr d hq kk
-- FrameMachine$Processor.execute()V
theorem kd_P_execute_0 : decode b_P_execute 0 = .ok (.aload_n 0, 1) := by decide +kernel
theorem kd_P_execute_1 : decode b_P_execute 1 = .ok (.getfield 12, 3) := by decide +kernel
theorem kd_P_execute_4 : decode b_P_execute 4 = .ok (.getfield 157, 3) := by decide +kernel
theorem kd_P_execute_7 : decode b_P_execute 7 = .ok (.bipush 7, 2) := by decide +kernel
theorem kd_P_execute_9 : decode b_P_execute 9 = .ok (.iand, 1) := by decide +kernel
theorem kd_P_execute_10 : decode b_P_execute 10 = .ok (.istore_n 1, 1) := by decide +kernel
theorem kd_P_execute_11 : decode b_P_execute 11 = .ok (.aload_n 0, 1) := by decide +kernel
theorem kd_P_execute_12 : decode b_P_execute 12 = .ok (.getfield 12, 3) := by decide +kernel
theorem kd_P_execute_15 : decode b_P_execute 15 = .ok (.getfield 160, 3) := by decide +kernel
theorem kd_P_execute_18 : decode b_P_execute 18 = .ok (.istore_n 2, 1) := by decide +kernel
theorem kd_P_execute_19 : decode b_P_execute 19 = .ok (.aload_n 0, 1) := by decide +kernel
theorem kd_P_execute_20 : decode b_P_execute 20 = .ok (.getfield 39, 3) := by decide +kernel
theorem kd_P_execute_23 : decode b_P_execute 23 = .ok (.getfield 163, 3) := by decide +kernel
theorem kd_P_execute_26 : decode b_P_execute 26 = .ok (.istore_n 3, 1) := by decide +kernel
theorem kd_P_execute_27 : decode b_P_execute 27 = .ok (.aload_n 0, 1) := by decide +kernel
theorem kd_P_execute_28 : decode b_P_execute 28 = .ok (.getfield 22, 3) := by decide +kernel
theorem kd_P_execute_31 : decode b_P_execute 31 = .ok (.getfield 166, 3) := by decide +kernel
theorem kd_P_execute_34 : decode b_P_execute 34 = .ok (.iload_n 1, 1) := by decide +kernel
theorem kd_P_execute_35 : decode b_P_execute 35 = .ok (.iaload, 1) := by decide +kernel
theorem kd_P_execute_36 : decode b_P_execute 36 = .ok (.istore 4, 2) := by decide +kernel
theorem kd_P_execute_38 : decode b_P_execute 38 = .ok (.aload_n 0, 1) := by decide +kernel
theorem kd_P_execute_39 : decode b_P_execute 39 = .ok (.getfield 12, 3) := by decide +kernel
theorem kd_P_execute_42 : decode b_P_execute 42 = .ok (.getfield 170, 3) := by decide +kernel
theorem kd_P_execute_45 : decode b_P_execute 45 = .ok (.tableswitch 559 0 29 #[135, 143, 152, 169, 187, 205, 220, 231, 242, 253, 274, 295, 315, 334, 342, 354, 374, 384, 393, 406, 423, 437, 444, 461, 475, 482, 512, 523, 540, 547], 135) := by decide +kernel
theorem kd_P_execute_180 : decode b_P_execute 180 = .ok (.aload_n 0, 1) := by decide +kernel
theorem kd_P_execute_181 : decode b_P_execute 181 = .ok (.iload_n 3, 1) := by decide +kernel
theorem kd_P_execute_182 : decode b_P_execute 182 = .ok (.invokevirtual 173, 3) := by decide +kernel
theorem kd_P_execute_185 : decode b_P_execute 185 = .ok (.goto 419, 3) := by decide +kernel
theorem kd_P_execute_188 : decode b_P_execute 188 = .ok (.aload_n 0, 1) := by decide +kernel
theorem kd_P_execute_189 : decode b_P_execute 189 = .ok (.iload 4, 2) := by decide +kernel
theorem kd_P_execute_191 : decode b_P_execute 191 = .ok (.invokevirtual 176, 3) := by decide +kernel
theorem kd_P_execute_194 : decode b_P_execute 194 = .ok (.goto 410, 3) := by decide +kernel
theorem kd_P_execute_197 : decode b_P_execute 197 = .ok (.aload_n 0, 1) := by decide +kernel
theorem kd_P_execute_198 : decode b_P_execute 198 = .ok (.getfield 22, 3) := by decide +kernel
theorem kd_P_execute_201 : decode b_P_execute 201 = .ok (.getfield 179, 3) := by decide +kernel
theorem kd_P_execute_204 : decode b_P_execute 204 = .ok (.iload_n 1, 1) := by decide +kernel
theorem kd_P_execute_205 : decode b_P_execute 205 = .ok (.iload_n 3, 1) := by decide +kernel
theorem kd_P_execute_206 : decode b_P_execute 206 = .ok (.iload_n 2, 1) := by decide +kernel
theorem kd_P_execute_207 : decode b_P_execute 207 = .ok (.invokestatic 182, 3) := by decide +kernel
theorem kd_P_execute_210 : decode b_P_execute 210 = .ok (.iastore, 1) := by decide +kernel
theorem kd_P_execute_211 : decode b_P_execute 211 = .ok (.goto 393, 3) := by decide +kernel
theorem kd_P_execute_214 : decode b_P_execute 214 = .ok (.aload_n 0, 1) := by decide +kernel
theorem kd_P_execute_215 : decode b_P_execute 215 = .ok (.aload_n 0, 1) := by decide +kernel
theorem kd_P_execute_216 : decode b_P_execute 216 = .ok (.getfield 48, 3) := by decide +kernel
theorem kd_P_execute_219 : decode b_P_execute 219 = .ok (.iload 4, 2) := by decide +kernel
theorem kd_P_execute_221 : decode b_P_execute 221 = .ok (.iload_n 3, 1) := by decide +kernel
theorem kd_P_execute_222 : decode b_P_execute 222 = .ok (.iload_n 2, 1) := by decide +kernel
theorem kd_P_execute_223 : decode b_P_execute 223 = .ok (.invokevirtual 186, 3) := by decide +kernel
theorem kd_P_execute_226 : decode b_P_execute 226 = .ok (.invokevirtual 190, 3) := by decide +kernel
theorem kd_P_execute_229 : decode b_P_execute 229 = .ok (.goto 375, 3) := by decide +kernel
theorem kd_P_execute_232 : decode b_P_execute 232 = .ok (.aload_n 0, 1) := by decide +kernel
theorem kd_P_execute_233 : decode b_P_execute 233 = .ok (.aload_n 0, 1) := by decide +kernel
theorem kd_P_execute_234 : decode b_P_execute 234 = .ok (.getfield 48, 3) := by decide +kernel
theorem kd_P_execute_237 : decode b_P_execute 237 = .ok (.iload 4, 2) := by decide +kernel
theorem kd_P_execute_239 : decode b_P_execute 239 = .ok (.iload_n 3, 1) := by decide +kernel
theorem kd_P_execute_240 : decode b_P_execute 240 = .ok (.iload_n 2, 1) := by decide +kernel
theorem kd_P_execute_241 : decode b_P_execute 241 = .ok (.invokevirtual 193, 3) := by decide +kernel
theorem kd_P_execute_244 : decode b_P_execute 244 = .ok (.invokevirtual 190, 3) := by decide +kernel
theorem kd_P_execute_247 : decode b_P_execute 247 = .ok (.goto 357, 3) := by decide +kernel
theorem kd_P_execute_250 : decode b_P_execute 250 = .ok (.aload_n 0, 1) := by decide +kernel
theorem kd_P_execute_251 : decode b_P_execute 251 = .ok (.getfield 48, 3) := by decide +kernel
theorem kd_P_execute_254 : decode b_P_execute 254 = .ok (.iload 4, 2) := by decide +kernel
theorem kd_P_execute_256 : decode b_P_execute 256 = .ok (.iload_n 3, 1) := by decide +kernel
theorem kd_P_execute_257 : decode b_P_execute 257 = .ok (.iload_n 2, 1) := by decide +kernel
theorem kd_P_execute_258 : decode b_P_execute 258 = .ok (.invokevirtual 196, 3) := by decide +kernel
theorem kd_P_execute_261 : decode b_P_execute 261 = .ok (.pop, 1) := by decide +kernel
theorem kd_P_execute_262 : decode b_P_execute 262 = .ok (.goto 342, 3) := by decide +kernel
theorem kd_P_execute_265 : decode b_P_execute 265 = .ok (.aload_n 0, 1) := by decide +kernel
theorem kd_P_execute_266 : decode b_P_execute 266 = .ok (.iload 4, 2) := by decide +kernel
theorem kd_P_execute_268 : decode b_P_execute 268 = .ok (.iload_n 3, 1) := by decide +kernel
theorem kd_P_execute_269 : decode b_P_execute 269 = .ok (.iand, 1) := by decide +kernel
theorem kd_P_execute_270 : decode b_P_execute 270 = .ok (.invokevirtual 173, 3) := by decide +kernel
theorem kd_P_execute_273 : decode b_P_execute 273 = .ok (.goto 331, 3) := by decide +kernel
theorem kd_P_execute_276 : decode b_P_execute 276 = .ok (.aload_n 0, 1) := by decide +kernel
theorem kd_P_execute_277 : decode b_P_execute 277 = .ok (.iload 4, 2) := by decide +kernel
theorem kd_P_execute_279 : decode b_P_execute 279 = .ok (.iload_n 3, 1) := by decide +kernel
theorem kd_P_execute_280 : decode b_P_execute 280 = .ok (.ior, 1) := by decide +kernel
theorem kd_P_execute_281 : decode b_P_execute 281 = .ok (.invokevirtual 173, 3) := by decide +kernel
theorem kd_P_execute_284 : decode b_P_execute 284 = .ok (.goto 320, 3) := by decide +kernel
theorem kd_P_execute_287 : decode b_P_execute 287 = .ok (.aload_n 0, 1) := by decide +kernel
theorem kd_P_execute_288 : decode b_P_execute 288 = .ok (.iload 4, 2) := by decide +kernel
theorem kd_P_execute_290 : decode b_P_execute 290 = .ok (.iload_n 3, 1) := by decide +kernel
theorem kd_P_execute_291 : decode b_P_execute 291 = .ok (.ixor, 1) := by decide +kernel
theorem kd_P_execute_292 : decode b_P_execute 292 = .ok (.invokevirtual 173, 3) := by decide +kernel
theorem kd_P_execute_295 : decode b_P_execute 295 = .ok (.goto 309, 3) := by decide +kernel
theorem kd_P_execute_298 : decode b_P_execute 298 = .ok (.aload_n 0, 1) := by decide +kernel
theorem kd_P_execute_299 : decode b_P_execute 299 = .ok (.getfield 39, 3) := by decide +kernel
theorem kd_P_execute_302 : decode b_P_execute 302 = .ok (.aload_n 0, 1) := by decide +kernel
theorem kd_P_execute_303 : decode b_P_execute 303 = .ok (.getfield 48, 3) := by decide +kernel
theorem kd_P_execute_306 : decode b_P_execute 306 = .ok (.iload_n 3, 1) := by decide +kernel
theorem kd_P_execute_307 : decode b_P_execute 307 = .ok (.iload 4, 2) := by decide +kernel
theorem kd_P_execute_309 : decode b_P_execute 309 = .ok (.iload_n 2, 1) := by decide +kernel
theorem kd_P_execute_310 : decode b_P_execute 310 = .ok (.invokevirtual 186, 3) := by decide +kernel
theorem kd_P_execute_313 : decode b_P_execute 313 = .ok (.invokevirtual 199, 3) := by decide +kernel
theorem kd_P_execute_316 : decode b_P_execute 316 = .ok (.goto 288, 3) := by decide +kernel
theorem kd_P_execute_319 : decode b_P_execute 319 = .ok (.aload_n 0, 1) := by decide +kernel
theorem kd_P_execute_320 : decode b_P_execute 320 = .ok (.getfield 39, 3) := by decide +kernel
theorem kd_P_execute_323 : decode b_P_execute 323 = .ok (.aload_n 0, 1) := by decide +kernel
theorem kd_P_execute_324 : decode b_P_execute 324 = .ok (.getfield 48, 3) := by decide +kernel
theorem kd_P_execute_327 : decode b_P_execute 327 = .ok (.iload_n 3, 1) := by decide +kernel
theorem kd_P_execute_328 : decode b_P_execute 328 = .ok (.iload 4, 2) := by decide +kernel
theorem kd_P_execute_330 : decode b_P_execute 330 = .ok (.iload_n 2, 1) := by decide +kernel
theorem kd_P_execute_331 : decode b_P_execute 331 = .ok (.invokevirtual 193, 3) := by decide +kernel
theorem kd_P_execute_334 : decode b_P_execute 334 = .ok (.invokevirtual 199, 3) := by decide +kernel
theorem kd_P_execute_337 : decode b_P_execute 337 = .ok (.goto 267, 3) := by decide +kernel
theorem kd_P_execute_340 : decode b_P_execute 340 = .ok (.aload_n 0, 1) := by decide +kernel
theorem kd_P_execute_341 : decode b_P_execute 341 = .ok (.getfield 22, 3) := by decide +kernel
theorem kd_P_execute_344 : decode b_P_execute 344 = .ok (.getfield 179, 3) := by decide +kernel
theorem kd_P_execute_347 : decode b_P_execute 347 = .ok (.iload_n 1, 1) := by decide +kernel
theorem kd_P_execute_348 : decode b_P_execute 348 = .ok (.dup2, 1) := by decide +kernel
theorem kd_P_execute_349 : decode b_P_execute 349 = .ok (.iaload, 1) := by decide +kernel
theorem kd_P_execute_350 : decode b_P_execute 350 = .ok (.iload_n 3, 1) := by decide +kernel
theorem kd_P_execute_351 : decode b_P_execute 351 = .ok (.iload_n 2, 1) := by decide +kernel
theorem kd_P_execute_352 : decode b_P_execute 352 = .ok (.invokestatic 182, 3) := by decide +kernel
theorem kd_P_execute_355 : decode b_P_execute 355 = .ok (.iadd, 1) := by decide +kernel
theorem kd_P_execute_356 : decode b_P_execute 356 = .ok (.iastore, 1) := by decide +kernel
theorem kd_P_execute_357 : decode b_P_execute 357 = .ok (.goto 247, 3) := by decide +kernel
theorem kd_P_execute_360 : decode b_P_execute 360 = .ok (.aload_n 0, 1) := by decide +kernel
theorem kd_P_execute_361 : decode b_P_execute 361 = .ok (.getfield 22, 3) := by decide +kernel
theorem kd_P_execute_364 : decode b_P_execute 364 = .ok (.getfield 179, 3) := by decide +kernel
theorem kd_P_execute_367 : decode b_P_execute 367 = .ok (.iload_n 1, 1) := by decide +kernel
theorem kd_P_execute_368 : decode b_P_execute 368 = .ok (.aload_n 0, 1) := by decide +kernel
theorem kd_P_execute_369 : decode b_P_execute 369 = .ok (.getfield 39, 3) := by decide +kernel
theorem kd_P_execute_372 : decode b_P_execute 372 = .ok (.getfield 202, 3) := by decide +kernel
theorem kd_P_execute_375 : decode b_P_execute 375 = .ok (.iastore, 1) := by decide +kernel
theorem kd_P_execute_376 : decode b_P_execute 376 = .ok (.goto 228, 3) := by decide +kernel
theorem kd_P_execute_379 : decode b_P_execute 379 = .ok (.aload_n 0, 1) := by decide +kernel
theorem kd_P_execute_380 : decode b_P_execute 380 = .ok (.iconst 0, 1) := by decide +kernel
theorem kd_P_execute_381 : decode b_P_execute 381 = .ok (.invokevirtual 176, 3) := by decide +kernel
theorem kd_P_execute_384 : decode b_P_execute 384 = .ok (.goto 220, 3) := by decide +kernel
theorem kd_P_execute_387 : decode b_P_execute 387 = .ok (.aload_n 0, 1) := by decide +kernel
theorem kd_P_execute_388 : decode b_P_execute 388 = .ok (.getfield 48, 3) := by decide +kernel
theorem kd_P_execute_391 : decode b_P_execute 391 = .ok (.iload_n 3, 1) := by decide +kernel
theorem kd_P_execute_392 : decode b_P_execute 392 = .ok (.iload_n 2, 1) := by decide +kernel
theorem kd_P_execute_393 : decode b_P_execute 393 = .ok (.invokevirtual 205, 3) := by decide +kernel
theorem kd_P_execute_396 : decode b_P_execute 396 = .ok (.goto 208, 3) := by decide +kernel
theorem kd_P_execute_399 : decode b_P_execute 399 = .ok (.aload_n 0, 1) := by decide +kernel
theorem kd_P_execute_400 : decode b_P_execute 400 = .ok (.getfield 39, 3) := by decide +kernel
theorem kd_P_execute_403 : decode b_P_execute 403 = .ok (.aload_n 0, 1) := by decide +kernel
theorem kd_P_execute_404 : decode b_P_execute 404 = .ok (.getfield 48, 3) := by decide +kernel
theorem kd_P_execute_407 : decode b_P_execute 407 = .ok (.iconst 0, 1) := by decide +kernel
theorem kd_P_execute_408 : decode b_P_execute 408 = .ok (.iload_n 3, 1) := by decide +kernel
theorem kd_P_execute_409 : decode b_P_execute 409 = .ok (.iload_n 2, 1) := by decide +kernel
theorem kd_P_execute_410 : decode b_P_execute 410 = .ok (.invokevirtual 193, 3) := by decide +kernel
theorem kd_P_execute_413 : decode b_P_execute 413 = .ok (.invokevirtual 199, 3) := by decide +kernel
theorem kd_P_execute_416 : decode b_P_execute 416 = .ok (.goto 188, 3) := by decide +kernel
theorem kd_P_execute_419 : decode b_P_execute 419 = .ok (.aload_n 0, 1) := by decide +kernel
theorem kd_P_execute_420 : decode b_P_execute 420 = .ok (.iload_n 3, 1) := by decide +kernel
theorem kd_P_execute_421 : decode b_P_execute 421 = .ok (.iconst (-1), 1) := by decide +kernel
theorem kd_P_execute_422 : decode b_P_execute 422 = .ok (.ixor, 1) := by decide +kernel
theorem kd_P_execute_423 : decode b_P_execute 423 = .ok (.invokevirtual 176, 3) := by decide +kernel
theorem kd_P_execute_426 : decode b_P_execute 426 = .ok (.goto 178, 3) := by decide +kernel
theorem kd_P_execute_429 : decode b_P_execute 429 = .ok (.aload_n 0, 1) := by decide +kernel
theorem kd_P_execute_430 : decode b_P_execute 430 = .ok (.iload 4, 2) := by decide +kernel
theorem kd_P_execute_432 : decode b_P_execute 432 = .ok (.invokevirtual 209, 3) := by decide +kernel
theorem kd_P_execute_435 : decode b_P_execute 435 = .ok (.goto 169, 3) := by decide +kernel
theorem kd_P_execute_438 : decode b_P_execute 438 = .ok (.aload_n 0, 1) := by decide +kernel
theorem kd_P_execute_439 : decode b_P_execute 439 = .ok (.iload 4, 2) := by decide +kernel
theorem kd_P_execute_441 : decode b_P_execute 441 = .ok (.ldc 212, 2) := by decide +kernel
theorem kd_P_execute_443 : decode b_P_execute 443 = .ok (.iand, 1) := by decide +kernel
theorem kd_P_execute_444 : decode b_P_execute 444 = .ok (.iload_n 3, 1) := by decide +kernel
theorem kd_P_execute_445 : decode b_P_execute 445 = .ok (.invokevirtual 213, 3) := by decide +kernel
theorem kd_P_execute_448 : decode b_P_execute 448 = .ok (.goto 156, 3) := by decide +kernel
theorem kd_P_execute_451 : decode b_P_execute 451 = .ok (.aload_n 0, 1) := by decide +kernel
theorem kd_P_execute_452 : decode b_P_execute 452 = .ok (.iload 4, 2) := by decide +kernel
theorem kd_P_execute_454 : decode b_P_execute 454 = .ok (.i2l, 1) := by decide +kernel
theorem kd_P_execute_455 : decode b_P_execute 455 = .ok (.ldc2_w 216, 3) := by decide +kernel
theorem kd_P_execute_458 : decode b_P_execute 458 = .ok (.land, 1) := by decide +kernel
theorem kd_P_execute_459 : decode b_P_execute 459 = .ok (.iload_n 3, 1) := by decide +kernel
theorem kd_P_execute_460 : decode b_P_execute 460 = .ok (.i2l, 1) := by decide +kernel
theorem kd_P_execute_461 : decode b_P_execute 461 = .ok (.iconst 0, 1) := by decide +kernel
theorem kd_P_execute_462 : decode b_P_execute 462 = .ok (.invokevirtual 218, 3) := by decide +kernel
theorem kd_P_execute_465 : decode b_P_execute 465 = .ok (.goto 139, 3) := by decide +kernel
theorem kd_P_execute_468 : decode b_P_execute 468 = .ok (.aload_n 0, 1) := by decide +kernel
theorem kd_P_execute_469 : decode b_P_execute 469 = .ok (.iload 4, 2) := by decide +kernel
theorem kd_P_execute_471 : decode b_P_execute 471 = .ok (.i2l, 1) := by decide +kernel
theorem kd_P_execute_472 : decode b_P_execute 472 = .ok (.iload_n 3, 1) := by decide +kernel
theorem kd_P_execute_473 : decode b_P_execute 473 = .ok (.i2s, 1) := by decide +kernel
theorem kd_P_execute_474 : decode b_P_execute 474 = .ok (.i2l, 1) := by decide +kernel
theorem kd_P_execute_475 : decode b_P_execute 475 = .ok (.iconst 1, 1) := by decide +kernel
theorem kd_P_execute_476 : decode b_P_execute 476 = .ok (.invokevirtual 218, 3) := by decide +kernel
theorem kd_P_execute_479 : decode b_P_execute 479 = .ok (.goto 125, 3) := by decide +kernel
theorem kd_P_execute_482 : decode b_P_execute 482 = .ok (.aload_n 0, 1) := by decide +kernel
theorem kd_P_execute_483 : decode b_P_execute 483 = .ok (.invokevirtual 222, 3) := by decide +kernel
theorem kd_P_execute_486 : decode b_P_execute 486 = .ok (.goto 118, 3) := by decide +kernel
theorem kd_P_execute_489 : decode b_P_execute 489 = .ok (.aload_n 0, 1) := by decide +kernel
theorem kd_P_execute_490 : decode b_P_execute 490 = .ok (.getfield 22, 3) := by decide +kernel
theorem kd_P_execute_493 : decode b_P_execute 493 = .ok (.aload_n 0, 1) := by decide +kernel
theorem kd_P_execute_494 : decode b_P_execute 494 = .ok (.getfield 39, 3) := by decide +kernel
theorem kd_P_execute_497 : decode b_P_execute 497 = .ok (.getfield 202, 3) := by decide +kernel
theorem kd_P_execute_500 : decode b_P_execute 500 = .ok (.putfield 85, 3) := by decide +kernel
theorem kd_P_execute_503 : decode b_P_execute 503 = .ok (.goto 101, 3) := by decide +kernel
theorem kd_P_execute_506 : decode b_P_execute 506 = .ok (.aload_n 0, 1) := by decide +kernel
theorem kd_P_execute_507 : decode b_P_execute 507 = .ok (.aload_n 0, 1) := by decide +kernel
theorem kd_P_execute_508 : decode b_P_execute 508 = .ok (.getfield 39, 3) := by decide +kernel
theorem kd_P_execute_511 : decode b_P_execute 511 = .ok (.getfield 202, 3) := by decide +kernel
theorem kd_P_execute_514 : decode b_P_execute 514 = .ok (.invokevirtual 225, 3) := by decide +kernel
theorem kd_P_execute_517 : decode b_P_execute 517 = .ok (.goto 87, 3) := by decide +kernel
theorem kd_P_execute_520 : decode b_P_execute 520 = .ok (.aload_n 0, 1) := by decide +kernel
theorem kd_P_execute_521 : decode b_P_execute 521 = .ok (.invokevirtual 228, 3) := by decide +kernel
theorem kd_P_execute_524 : decode b_P_execute 524 = .ok (.goto 80, 3) := by decide +kernel
theorem kd_P_execute_527 : decode b_P_execute 527 = .ok (.aload_n 0, 1) := by decide +kernel
theorem kd_P_execute_528 : decode b_P_execute 528 = .ok (.bipush 32, 2) := by decide +kernel
theorem kd_P_execute_530 : decode b_P_execute 530 = .ok (.aload_n 0, 1) := by decide +kernel
theorem kd_P_execute_531 : decode b_P_execute 531 = .ok (.getfield 12, 3) := by decide +kernel
theorem kd_P_execute_534 : decode b_P_execute 534 = .ok (.getfield 231, 3) := by decide +kernel
theorem kd_P_execute_537 : decode b_P_execute 537 = .ok (.iadd, 1) := by decide +kernel
theorem kd_P_execute_538 : decode b_P_execute 538 = .ok (.bipush 8, 2) := by decide +kernel
theorem kd_P_execute_540 : decode b_P_execute 540 = .ok (.aload_n 0, 1) := by decide +kernel
theorem kd_P_execute_541 : decode b_P_execute 541 = .ok (.getfield 12, 3) := by decide +kernel
theorem kd_P_execute_544 : decode b_P_execute 544 = .ok (.getfield 234, 3) := by decide +kernel
theorem kd_P_execute_547 : decode b_P_execute 547 = .ok (.iconst 2, 1) := by decide +kernel
theorem kd_P_execute_548 : decode b_P_execute 548 = .ok (.irem, 1) := by decide +kernel
theorem kd_P_execute_549 : decode b_P_execute 549 = .ok (.imul, 1) := by decide +kernel
theorem kd_P_execute_550 : decode b_P_execute 550 = .ok (.iadd, 1) := by decide +kernel
theorem kd_P_execute_551 : decode b_P_execute 551 = .ok (.putfield 120, 3) := by decide +kernel
theorem kd_P_execute_554 : decode b_P_execute 554 = .ok (.goto 50, 3) := by decide +kernel
theorem kd_P_execute_557 : decode b_P_execute 557 = .ok (.aload_n 0, 1) := by decide +kernel
theorem kd_P_execute_558 : decode b_P_execute 558 = .ok (.getfield 22, 3) := by decide +kernel
theorem kd_P_execute_561 : decode b_P_execute 561 = .ok (.iload_n 3, 1) := by decide +kernel
theorem kd_P_execute_562 : decode b_P_execute 562 = .ok (.invokevirtual 237, 3) := by decide +kernel
theorem kd_P_execute_565 : decode b_P_execute 565 = .ok (.goto 39, 3) := by decide +kernel
theorem kd_P_execute_568 : decode b_P_execute 568 = .ok (.aload_n 0, 1) := by decide +kernel
theorem kd_P_execute_569 : decode b_P_execute 569 = .ok (.getfield 39, 3) := by decide +kernel
theorem kd_P_execute_572 : decode b_P_execute 572 = .ok (.aload_n 0, 1) := by decide +kernel
theorem kd_P_execute_573 : decode b_P_execute 573 = .ok (.getfield 22, 3) := by decide +kernel
theorem kd_P_execute_576 : decode b_P_execute 576 = .ok (.getfield 240, 3) := by decide +kernel
theorem kd_P_execute_579 : decode b_P_execute 579 = .ok (.invokevirtual 199, 3) := by decide +kernel
theorem kd_P_execute_582 : decode b_P_execute 582 = .ok (.goto 22, 3) := by decide +kernel
theorem kd_P_execute_585 : decode b_P_execute 585 = .ok (.aload_n 0, 1) := by decide +kernel
theorem kd_P_execute_586 : decode b_P_execute 586 = .ok (.invokevirtual 243, 3) := by decide +kernel
theorem kd_P_execute_589 : decode b_P_execute 589 = .ok (.goto 15, 3) := by decide +kernel
theorem kd_P_execute_592 : decode b_P_execute 592 = .ok (.aload_n 0, 1) := by decide +kernel
theorem kd_P_execute_593 : decode b_P_execute 593 = .ok (.iload 4, 2) := by decide +kernel
theorem kd_P_execute_595 : decode b_P_execute 595 = .ok (.i2s, 1) := by decide +kernel
theorem kd_P_execute_596 : decode b_P_execute 596 = .ok (.iload_n 3, 1) := by decide +kernel
theorem kd_P_execute_597 : decode b_P_execute 597 = .ok (.i2s, 1) := by decide +kernel
theorem kd_P_execute_598 : decode b_P_execute 598 = .ok (.invokevirtual 246, 3) := by decide +kernel
theorem kd_P_execute_601 : decode b_P_execute 601 = .ok (.goto 3, 3) := by decide +kernel
theorem kd_P_execute_604 : decode b_P_execute 604 = .ok (.return_, 1) := by decide +kernel
noncomputable def f_P_execute (s0 : ZS)  : Option (ZS) :=
  zs_nm ((s0 0 26) &&& 7) fun v1 =>
  zs_nm (s0 0 25) fun v2 =>
  zs_nm (s0 0 33) fun v3 =>
  if v1 < 0 ∨ 8 ≤ v1.toNatClampNeg then none else
  zs_nm (s0 2 v1.toNatClampNeg) fun v4 =>
  zs_nm (s0 0 24) fun v5 =>
  if v5 = 0 then
    (f_P_putMarked s0 v3).bind fun s6 =>
    some s6
  else if v5 = 1 then
    (f_P_storeMarked s0 v4).bind fun s7 =>
    some s7
  else if v5 = 2 then
    (f_F_withSign s0 v3 v2).bind fun p8 =>
    if v1 < 0 ∨ 8 ≤ v1.toNatClampNeg then none else
    zs_nm (zs_up p8.2 3 v1.toNatClampNeg p8.1) fun s9 =>
    some s9
  else if v5 = 3 then
    (f_A_sum s0 v4 v3 v2).bind fun p10 =>
    (f_P_put p10.2 p10.1).bind fun s11 =>
    some s11
  else if v5 = 4 then
    (f_A_difference s0 v4 v3 v2).bind fun p12 =>
    (f_P_put p12.2 p12.1).bind fun s13 =>
    some s13
  else if v5 = 5 then
    (f_A_compare s0 v4 v3 v2).bind fun p14 =>
    some p14.2
  else if v5 = 6 then
    (f_P_putMarked s0 (v4 &&& v3)).bind fun s15 =>
    some s15
  else if v5 = 7 then
    (f_P_putMarked s0 (v4 ||| v3)).bind fun s16 =>
    some s16
  else if v5 = 8 then
    (f_P_putMarked s0 (v4 ^^^ v3)).bind fun s17 =>
    some s17
  else if v5 = 9 then
    (f_A_sum s0 v3 v4 v2).bind fun p18 =>
    (f_O_store p18.2 p18.1).bind fun s19 =>
    some s19
  else if v5 = 10 then
    (f_A_difference s0 v3 v4 v2).bind fun p20 =>
    (f_O_store p20.2 p20.1).bind fun s21 =>
    some s21
  else if v5 = 11 then
    if v1 < 0 ∨ 8 ≤ v1.toNatClampNeg then none else
    (f_F_withSign s0 v3 v2).bind fun p22 =>
    if v1 < 0 ∨ 8 ≤ v1.toNatClampNeg then none else
    zs_nm (zs_up p22.2 3 v1.toNatClampNeg ((s0 3 v1.toNatClampNeg) + p22.1)) fun s23 =>
    some s23
  else if v5 = 12 then
    if v1 < 0 ∨ 8 ≤ v1.toNatClampNeg then none else
    zs_nm (zs_up s0 3 v1.toNatClampNeg (s0 0 32)) fun s24 =>
    some s24
  else if v5 = 13 then
    (f_P_storeMarked s0 0).bind fun s25 =>
    some s25
  else if v5 = 14 then
    (f_A_markResult s0 v3 v2).bind fun s26 =>
    some s26
  else if v5 = 15 then
    (f_A_difference s0 0 v3 v2).bind fun p27 =>
    (f_O_store p27.2 p27.1).bind fun s28 =>
    some s28
  else if v5 = 16 then
    (f_P_storeMarked s0 (v3 ^^^ ((-1)))).bind fun s29 =>
    some s29
  else if v5 = 17 then
    (f_P_shift s0 v4).bind fun s30 =>
    some s30
  else if v5 = 18 then
    (f_P_multiply s0 (v4 &&& 65535) v3).bind fun s31 =>
    some s31
  else if v5 = 19 then
    (f_P_divide s0 ((v4.toInt64) &&& 4294967295) (v3.toInt64) 0).bind fun s32 =>
    some s32
  else if v5 = 20 then
    (f_P_divide s0 (v4.toInt64) ((v3.toInt16.toInt32).toInt64) 1).bind fun s33 =>
    some s33
  else if v5 = 21 then
    (f_P_branch s0 ).bind fun s34 =>
    some s34
  else if v5 = 22 then
    zs_nm (zs_up s0 0 14 (s0 0 32)) fun s35 =>
    some s35
  else if v5 = 23 then
    (f_P_call s0 (s0 0 32)).bind fun s36 =>
    some s36
  else if v5 = 24 then
    (f_P_control s0 ).bind fun s37 =>
    some s37
  else if v5 = 25 then
    zs_nm (zs_up s0 0 22 ((32 + (s0 0 28)) + (8 * (zo_irem (s0 0 27) 2)))) fun s38 =>
    some s38
  else if v5 = 26 then
    (f_G_changeStatus s0 v3).bind fun s39 =>
    some s39
  else if v5 = 27 then
    (f_O_store s0 (s0 0 15)).bind fun s40 =>
    some s40
  else if v5 = 28 then
    (f_P_exchangeOther s0 ).bind fun s41 =>
    some s41
  else if v5 = 29 then
    (f_P_check s0 (v4.toInt16.toInt32) (v3.toInt16.toInt32)).bind fun s42 =>
    some s42
  else 
    some s0
theorem j_P_execute {P : ZP} {E : ZE} {A : Nat → Prop} (X : ZX E (zcV P) A "FrameMachine$Processor" b_P_execute 5 none 5 122) (s0 : ZS)  : ZJ E (zcV P) A 5 (zFv E (zcV P) A) 0 [(0, .ref (P.1 6))] [] s0 (f_P_execute s0) := by
  unfold f_P_execute
  refine zj_aload_n 1 0 X kd_P_execute_0 rfl rfl rfl ?_
  refine gf_P_12 4 X kd_P_execute_1 rfl ?_
  refine gf_P_157 7 X kd_P_execute_4 rfl ?_
  refine zj_bipush 9 7 X kd_P_execute_7 kb_7 rfl ?_
  refine zj_iand 10 X kd_P_execute_9 rfl ?_
  refine zj_nmi (fun v1 => ?_)
  refine zj_istore_n 11 [(1, .int v1), (0, .ref (P.1 6))] X kd_P_execute_10 rfl (Nat.le_of_ble_eq_true rfl) rfl rfl ?_
  refine zj_aload_n 12 1 X kd_P_execute_11 rfl rfl rfl ?_
  refine gf_P_12 15 X kd_P_execute_12 rfl ?_
  refine gf_P_160 18 X kd_P_execute_15 rfl ?_
  refine zj_nmi (fun v2 => ?_)
  refine zj_istore_n 19 [(2, .int v2), (1, .int v1), (0, .ref (P.1 6))] X kd_P_execute_18 rfl (Nat.le_of_ble_eq_true rfl) rfl rfl ?_
  refine zj_aload_n 20 2 X kd_P_execute_19 rfl rfl rfl ?_
  refine gf_P_39 23 X kd_P_execute_20 rfl ?_
  refine gf_P_163 26 X kd_P_execute_23 rfl ?_
  refine zj_nmi (fun v3 => ?_)
  refine zj_istore_n 27 [(3, .int v3), (2, .int v2), (1, .int v1), (0, .ref (P.1 6))] X kd_P_execute_26 rfl (Nat.le_of_ble_eq_true rfl) rfl rfl ?_
  refine zj_aload_n 28 3 X kd_P_execute_27 rfl rfl rfl ?_
  refine gf_P_22 31 X kd_P_execute_28 rfl ?_
  refine gf_P_166 34 X kd_P_execute_31 rfl ?_
  refine zj_iload_n 35 2 X kd_P_execute_34 rfl rfl rfl ?_
  refine zj_ng (fun hg => ?_)
  refine al_C_2 36 X kd_P_execute_35 hg rfl ?_
  refine zj_nmi (fun v4 => ?_)
  refine zj_istore 38 [(4, .int v4), (3, .int v3), (2, .int v2), (1, .int v1), (0, .ref (P.1 6))] X kd_P_execute_36 (Nat.le_of_ble_eq_true rfl) rfl rfl ?_
  refine zj_aload_n 39 4 X kd_P_execute_38 rfl rfl rfl ?_
  refine gf_P_12 42 X kd_P_execute_39 rfl ?_
  refine gf_P_170 45 X kd_P_execute_42 rfl ?_
  refine zj_nmi (fun v5 => ?_)
  refine zj_tcase 180 X kd_P_execute_45 (by decide) (by decide) rfl rfl (fun _ => ?_) (fun h0 => ?_)
  · refine zj_aload_n 181 4 X kd_P_execute_180 rfl rfl rfl ?_
    refine zj_iload_n 182 1 X kd_P_execute_181 rfl rfl rfl ?_
    refine mc_P_173 185 X kd_P_execute_182 (Nat.le_of_ble_eq_true rfl) (Nat.le_of_ble_eq_true rfl) (Nat.le_of_ble_eq_true rfl) rfl (fun s6 => ?_)
    refine zj_goto 604 X kd_P_execute_185 rfl ?_
    exact zj_vret X kd_P_execute_604
  refine zj_tcase 188 X kd_P_execute_45 (by decide) (by decide) rfl rfl (fun _ => ?_) (fun h1 => ?_)
  · refine zj_aload_n 189 4 X kd_P_execute_188 rfl rfl rfl ?_
    refine zj_iload 191 0 X kd_P_execute_189 rfl rfl ?_
    refine mc_P_176 194 X kd_P_execute_191 (Nat.le_of_ble_eq_true rfl) (Nat.le_of_ble_eq_true rfl) (Nat.le_of_ble_eq_true rfl) rfl (fun s7 => ?_)
    refine zj_goto 604 X kd_P_execute_194 rfl ?_
    exact zj_vret X kd_P_execute_604
  refine zj_tcase 197 X kd_P_execute_45 (by decide) (by decide) rfl rfl (fun _ => ?_) (fun h2 => ?_)
  · refine zj_aload_n 198 4 X kd_P_execute_197 rfl rfl rfl ?_
    refine gf_P_22 201 X kd_P_execute_198 rfl ?_
    refine gf_P_179 204 X kd_P_execute_201 rfl ?_
    refine zj_iload_n 205 3 X kd_P_execute_204 rfl rfl rfl ?_
    refine zj_iload_n 206 1 X kd_P_execute_205 rfl rfl rfl ?_
    refine zj_iload_n 207 2 X kd_P_execute_206 rfl rfl rfl ?_
    refine mc_P_182 210 X kd_P_execute_207 (Nat.le_of_ble_eq_true rfl) (Nat.le_of_ble_eq_true rfl) (Nat.le_of_ble_eq_true rfl) rfl (fun p8 => ?_)
    refine zj_ng (fun hg => ?_)
    refine as_C_3 211 X kd_P_execute_210 hg rfl ?_
    refine zj_nms (fun s9 => ?_)
    refine zj_goto 604 X kd_P_execute_211 rfl ?_
    exact zj_vret X kd_P_execute_604
  refine zj_tcase 214 X kd_P_execute_45 (by decide) (by decide) rfl rfl (fun _ => ?_) (fun h3 => ?_)
  · refine zj_aload_n 215 4 X kd_P_execute_214 rfl rfl rfl ?_
    refine zj_aload_n 216 4 X kd_P_execute_215 rfl rfl rfl ?_
    refine gf_P_48 219 X kd_P_execute_216 rfl ?_
    refine zj_iload 221 0 X kd_P_execute_219 rfl rfl ?_
    refine zj_iload_n 222 1 X kd_P_execute_221 rfl rfl rfl ?_
    refine zj_iload_n 223 2 X kd_P_execute_222 rfl rfl rfl ?_
    refine mc_P_186 226 X kd_P_execute_223 (Nat.le_of_ble_eq_true rfl) (Nat.le_of_ble_eq_true rfl) (Nat.le_of_ble_eq_true rfl) rfl (fun p10 => ?_)
    refine mc_P_190 229 X kd_P_execute_226 (Nat.le_of_ble_eq_true rfl) (Nat.le_of_ble_eq_true rfl) (Nat.le_of_ble_eq_true rfl) rfl (fun s11 => ?_)
    refine zj_goto 604 X kd_P_execute_229 rfl ?_
    exact zj_vret X kd_P_execute_604
  refine zj_tcase 232 X kd_P_execute_45 (by decide) (by decide) rfl rfl (fun _ => ?_) (fun h4 => ?_)
  · refine zj_aload_n 233 4 X kd_P_execute_232 rfl rfl rfl ?_
    refine zj_aload_n 234 4 X kd_P_execute_233 rfl rfl rfl ?_
    refine gf_P_48 237 X kd_P_execute_234 rfl ?_
    refine zj_iload 239 0 X kd_P_execute_237 rfl rfl ?_
    refine zj_iload_n 240 1 X kd_P_execute_239 rfl rfl rfl ?_
    refine zj_iload_n 241 2 X kd_P_execute_240 rfl rfl rfl ?_
    refine mc_P_193 244 X kd_P_execute_241 (Nat.le_of_ble_eq_true rfl) (Nat.le_of_ble_eq_true rfl) (Nat.le_of_ble_eq_true rfl) rfl (fun p12 => ?_)
    refine mc_P_190 247 X kd_P_execute_244 (Nat.le_of_ble_eq_true rfl) (Nat.le_of_ble_eq_true rfl) (Nat.le_of_ble_eq_true rfl) rfl (fun s13 => ?_)
    refine zj_goto 604 X kd_P_execute_247 rfl ?_
    exact zj_vret X kd_P_execute_604
  refine zj_tcase 250 X kd_P_execute_45 (by decide) (by decide) rfl rfl (fun _ => ?_) (fun h5 => ?_)
  · refine zj_aload_n 251 4 X kd_P_execute_250 rfl rfl rfl ?_
    refine gf_P_48 254 X kd_P_execute_251 rfl ?_
    refine zj_iload 256 0 X kd_P_execute_254 rfl rfl ?_
    refine zj_iload_n 257 1 X kd_P_execute_256 rfl rfl rfl ?_
    refine zj_iload_n 258 2 X kd_P_execute_257 rfl rfl rfl ?_
    refine mc_P_196 261 X kd_P_execute_258 (Nat.le_of_ble_eq_true rfl) (Nat.le_of_ble_eq_true rfl) (Nat.le_of_ble_eq_true rfl) rfl (fun p14 => ?_)
    refine zj_pop 262 X kd_P_execute_261 rfl rfl ?_
    refine zj_goto 604 X kd_P_execute_262 rfl ?_
    exact zj_vret X kd_P_execute_604
  refine zj_tcase 265 X kd_P_execute_45 (by decide) (by decide) rfl rfl (fun _ => ?_) (fun h6 => ?_)
  · refine zj_aload_n 266 4 X kd_P_execute_265 rfl rfl rfl ?_
    refine zj_iload 268 0 X kd_P_execute_266 rfl rfl ?_
    refine zj_iload_n 269 1 X kd_P_execute_268 rfl rfl rfl ?_
    refine zj_iand 270 X kd_P_execute_269 rfl ?_
    refine mc_P_173 273 X kd_P_execute_270 (Nat.le_of_ble_eq_true rfl) (Nat.le_of_ble_eq_true rfl) (Nat.le_of_ble_eq_true rfl) rfl (fun s15 => ?_)
    refine zj_goto 604 X kd_P_execute_273 rfl ?_
    exact zj_vret X kd_P_execute_604
  refine zj_tcase 276 X kd_P_execute_45 (by decide) (by decide) rfl rfl (fun _ => ?_) (fun h7 => ?_)
  · refine zj_aload_n 277 4 X kd_P_execute_276 rfl rfl rfl ?_
    refine zj_iload 279 0 X kd_P_execute_277 rfl rfl ?_
    refine zj_iload_n 280 1 X kd_P_execute_279 rfl rfl rfl ?_
    refine zj_ior 281 X kd_P_execute_280 rfl ?_
    refine mc_P_173 284 X kd_P_execute_281 (Nat.le_of_ble_eq_true rfl) (Nat.le_of_ble_eq_true rfl) (Nat.le_of_ble_eq_true rfl) rfl (fun s16 => ?_)
    refine zj_goto 604 X kd_P_execute_284 rfl ?_
    exact zj_vret X kd_P_execute_604
  refine zj_tcase 287 X kd_P_execute_45 (by decide) (by decide) rfl rfl (fun _ => ?_) (fun h8 => ?_)
  · refine zj_aload_n 288 4 X kd_P_execute_287 rfl rfl rfl ?_
    refine zj_iload 290 0 X kd_P_execute_288 rfl rfl ?_
    refine zj_iload_n 291 1 X kd_P_execute_290 rfl rfl rfl ?_
    refine zj_ixor 292 X kd_P_execute_291 rfl ?_
    refine mc_P_173 295 X kd_P_execute_292 (Nat.le_of_ble_eq_true rfl) (Nat.le_of_ble_eq_true rfl) (Nat.le_of_ble_eq_true rfl) rfl (fun s17 => ?_)
    refine zj_goto 604 X kd_P_execute_295 rfl ?_
    exact zj_vret X kd_P_execute_604
  refine zj_tcase 298 X kd_P_execute_45 (by decide) (by decide) rfl rfl (fun _ => ?_) (fun h9 => ?_)
  · refine zj_aload_n 299 4 X kd_P_execute_298 rfl rfl rfl ?_
    refine gf_P_39 302 X kd_P_execute_299 rfl ?_
    refine zj_aload_n 303 4 X kd_P_execute_302 rfl rfl rfl ?_
    refine gf_P_48 306 X kd_P_execute_303 rfl ?_
    refine zj_iload_n 307 1 X kd_P_execute_306 rfl rfl rfl ?_
    refine zj_iload 309 0 X kd_P_execute_307 rfl rfl ?_
    refine zj_iload_n 310 2 X kd_P_execute_309 rfl rfl rfl ?_
    refine mc_P_186 313 X kd_P_execute_310 (Nat.le_of_ble_eq_true rfl) (Nat.le_of_ble_eq_true rfl) (Nat.le_of_ble_eq_true rfl) rfl (fun p18 => ?_)
    refine mc_P_199 316 X kd_P_execute_313 (Nat.le_of_ble_eq_true rfl) (Nat.le_of_ble_eq_true rfl) (Nat.le_of_ble_eq_true rfl) rfl (fun s19 => ?_)
    refine zj_goto 604 X kd_P_execute_316 rfl ?_
    exact zj_vret X kd_P_execute_604
  refine zj_tcase 319 X kd_P_execute_45 (by decide) (by decide) rfl rfl (fun _ => ?_) (fun h10 => ?_)
  · refine zj_aload_n 320 4 X kd_P_execute_319 rfl rfl rfl ?_
    refine gf_P_39 323 X kd_P_execute_320 rfl ?_
    refine zj_aload_n 324 4 X kd_P_execute_323 rfl rfl rfl ?_
    refine gf_P_48 327 X kd_P_execute_324 rfl ?_
    refine zj_iload_n 328 1 X kd_P_execute_327 rfl rfl rfl ?_
    refine zj_iload 330 0 X kd_P_execute_328 rfl rfl ?_
    refine zj_iload_n 331 2 X kd_P_execute_330 rfl rfl rfl ?_
    refine mc_P_193 334 X kd_P_execute_331 (Nat.le_of_ble_eq_true rfl) (Nat.le_of_ble_eq_true rfl) (Nat.le_of_ble_eq_true rfl) rfl (fun p20 => ?_)
    refine mc_P_199 337 X kd_P_execute_334 (Nat.le_of_ble_eq_true rfl) (Nat.le_of_ble_eq_true rfl) (Nat.le_of_ble_eq_true rfl) rfl (fun s21 => ?_)
    refine zj_goto 604 X kd_P_execute_337 rfl ?_
    exact zj_vret X kd_P_execute_604
  refine zj_tcase 340 X kd_P_execute_45 (by decide) (by decide) rfl rfl (fun _ => ?_) (fun h11 => ?_)
  · refine zj_aload_n 341 4 X kd_P_execute_340 rfl rfl rfl ?_
    refine gf_P_22 344 X kd_P_execute_341 rfl ?_
    refine gf_P_179 347 X kd_P_execute_344 rfl ?_
    refine zj_iload_n 348 3 X kd_P_execute_347 rfl rfl rfl ?_
    refine zj_dup2 349 X kd_P_execute_348 rfl rfl rfl ?_
    refine zj_ng (fun hg => ?_)
    refine al_C_3 350 X kd_P_execute_349 hg rfl ?_
    refine zj_iload_n 351 1 X kd_P_execute_350 rfl rfl rfl ?_
    refine zj_iload_n 352 2 X kd_P_execute_351 rfl rfl rfl ?_
    refine mc_P_182 355 X kd_P_execute_352 (Nat.le_of_ble_eq_true rfl) (Nat.le_of_ble_eq_true rfl) (Nat.le_of_ble_eq_true rfl) rfl (fun p22 => ?_)
    refine zj_iadd 356 X kd_P_execute_355 rfl ?_
    refine zj_ng (fun hg => ?_)
    refine as_C_3 357 X kd_P_execute_356 hg rfl ?_
    refine zj_nms (fun s23 => ?_)
    refine zj_goto 604 X kd_P_execute_357 rfl ?_
    exact zj_vret X kd_P_execute_604
  refine zj_tcase 360 X kd_P_execute_45 (by decide) (by decide) rfl rfl (fun _ => ?_) (fun h12 => ?_)
  · refine zj_aload_n 361 4 X kd_P_execute_360 rfl rfl rfl ?_
    refine gf_P_22 364 X kd_P_execute_361 rfl ?_
    refine gf_P_179 367 X kd_P_execute_364 rfl ?_
    refine zj_iload_n 368 3 X kd_P_execute_367 rfl rfl rfl ?_
    refine zj_aload_n 369 4 X kd_P_execute_368 rfl rfl rfl ?_
    refine gf_P_39 372 X kd_P_execute_369 rfl ?_
    refine gf_P_202 375 X kd_P_execute_372 rfl ?_
    refine zj_ng (fun hg => ?_)
    refine as_C_3 376 X kd_P_execute_375 hg rfl ?_
    refine zj_nms (fun s24 => ?_)
    refine zj_goto 604 X kd_P_execute_376 rfl ?_
    exact zj_vret X kd_P_execute_604
  refine zj_tcase 379 X kd_P_execute_45 (by decide) (by decide) rfl rfl (fun _ => ?_) (fun h13 => ?_)
  · refine zj_aload_n 380 4 X kd_P_execute_379 rfl rfl rfl ?_
    refine zj_iconst 381 0 X kd_P_execute_380 ki_0 rfl ?_
    refine mc_P_176 384 X kd_P_execute_381 (Nat.le_of_ble_eq_true rfl) (Nat.le_of_ble_eq_true rfl) (Nat.le_of_ble_eq_true rfl) rfl (fun s25 => ?_)
    refine zj_goto 604 X kd_P_execute_384 rfl ?_
    exact zj_vret X kd_P_execute_604
  refine zj_tcase 387 X kd_P_execute_45 (by decide) (by decide) rfl rfl (fun _ => ?_) (fun h14 => ?_)
  · refine zj_aload_n 388 4 X kd_P_execute_387 rfl rfl rfl ?_
    refine gf_P_48 391 X kd_P_execute_388 rfl ?_
    refine zj_iload_n 392 1 X kd_P_execute_391 rfl rfl rfl ?_
    refine zj_iload_n 393 2 X kd_P_execute_392 rfl rfl rfl ?_
    refine mc_P_205 396 X kd_P_execute_393 (Nat.le_of_ble_eq_true rfl) (Nat.le_of_ble_eq_true rfl) (Nat.le_of_ble_eq_true rfl) rfl (fun s26 => ?_)
    refine zj_goto 604 X kd_P_execute_396 rfl ?_
    exact zj_vret X kd_P_execute_604
  refine zj_tcase 399 X kd_P_execute_45 (by decide) (by decide) rfl rfl (fun _ => ?_) (fun h15 => ?_)
  · refine zj_aload_n 400 4 X kd_P_execute_399 rfl rfl rfl ?_
    refine gf_P_39 403 X kd_P_execute_400 rfl ?_
    refine zj_aload_n 404 4 X kd_P_execute_403 rfl rfl rfl ?_
    refine gf_P_48 407 X kd_P_execute_404 rfl ?_
    refine zj_iconst 408 0 X kd_P_execute_407 ki_0 rfl ?_
    refine zj_iload_n 409 1 X kd_P_execute_408 rfl rfl rfl ?_
    refine zj_iload_n 410 2 X kd_P_execute_409 rfl rfl rfl ?_
    refine mc_P_193 413 X kd_P_execute_410 (Nat.le_of_ble_eq_true rfl) (Nat.le_of_ble_eq_true rfl) (Nat.le_of_ble_eq_true rfl) rfl (fun p27 => ?_)
    refine mc_P_199 416 X kd_P_execute_413 (Nat.le_of_ble_eq_true rfl) (Nat.le_of_ble_eq_true rfl) (Nat.le_of_ble_eq_true rfl) rfl (fun s28 => ?_)
    refine zj_goto 604 X kd_P_execute_416 rfl ?_
    exact zj_vret X kd_P_execute_604
  refine zj_tcase 419 X kd_P_execute_45 (by decide) (by decide) rfl rfl (fun _ => ?_) (fun h16 => ?_)
  · refine zj_aload_n 420 4 X kd_P_execute_419 rfl rfl rfl ?_
    refine zj_iload_n 421 1 X kd_P_execute_420 rfl rfl rfl ?_
    refine zj_iconst 422 ((-1)) X kd_P_execute_421 ki_m1 rfl ?_
    refine zj_ixor 423 X kd_P_execute_422 rfl ?_
    refine mc_P_176 426 X kd_P_execute_423 (Nat.le_of_ble_eq_true rfl) (Nat.le_of_ble_eq_true rfl) (Nat.le_of_ble_eq_true rfl) rfl (fun s29 => ?_)
    refine zj_goto 604 X kd_P_execute_426 rfl ?_
    exact zj_vret X kd_P_execute_604
  refine zj_tcase 429 X kd_P_execute_45 (by decide) (by decide) rfl rfl (fun _ => ?_) (fun h17 => ?_)
  · refine zj_aload_n 430 4 X kd_P_execute_429 rfl rfl rfl ?_
    refine zj_iload 432 0 X kd_P_execute_430 rfl rfl ?_
    refine mc_P_209 435 X kd_P_execute_432 (Nat.le_of_ble_eq_true rfl) (Nat.le_of_ble_eq_true rfl) (Nat.le_of_ble_eq_true rfl) rfl (fun s30 => ?_)
    refine zj_goto 604 X kd_P_execute_435 rfl ?_
    exact zj_vret X kd_P_execute_604
  refine zj_tcase 438 X kd_P_execute_45 (by decide) (by decide) rfl rfl (fun _ => ?_) (fun h18 => ?_)
  · refine zj_aload_n 439 4 X kd_P_execute_438 rfl rfl rfl ?_
    refine zj_iload 441 0 X kd_P_execute_439 rfl rfl ?_
    refine zj_ldc 443 65535 X kd_P_execute_441 kw_676 rfl ?_
    refine zj_iand 444 X kd_P_execute_443 rfl ?_
    refine zj_iload_n 445 1 X kd_P_execute_444 rfl rfl rfl ?_
    refine mc_P_213 448 X kd_P_execute_445 (Nat.le_of_ble_eq_true rfl) (Nat.le_of_ble_eq_true rfl) (Nat.le_of_ble_eq_true rfl) rfl (fun s31 => ?_)
    refine zj_goto 604 X kd_P_execute_448 rfl ?_
    exact zj_vret X kd_P_execute_604
  refine zj_tcase 451 X kd_P_execute_45 (by decide) (by decide) rfl rfl (fun _ => ?_) (fun h19 => ?_)
  · refine zj_aload_n 452 4 X kd_P_execute_451 rfl rfl rfl ?_
    refine zj_iload 454 0 X kd_P_execute_452 rfl rfl ?_
    refine zj_i2l 455 X kd_P_execute_454 rfl ?_
    refine zj_ldc2 458 4294967295 X kd_P_execute_455 kw_681 rfl ?_
    refine zj_land 459 X kd_P_execute_458 rfl ?_
    refine zj_iload_n 460 1 X kd_P_execute_459 rfl rfl rfl ?_
    refine zj_i2l 461 X kd_P_execute_460 rfl ?_
    refine zj_iconst 462 0 X kd_P_execute_461 ki_0 rfl ?_
    refine mc_P_218 465 X kd_P_execute_462 (Nat.le_of_ble_eq_true rfl) (Nat.le_of_ble_eq_true rfl) (Nat.le_of_ble_eq_true rfl) rfl (fun s32 => ?_)
    refine zj_goto 604 X kd_P_execute_465 rfl ?_
    exact zj_vret X kd_P_execute_604
  refine zj_tcase 468 X kd_P_execute_45 (by decide) (by decide) rfl rfl (fun _ => ?_) (fun h20 => ?_)
  · refine zj_aload_n 469 4 X kd_P_execute_468 rfl rfl rfl ?_
    refine zj_iload 471 0 X kd_P_execute_469 rfl rfl ?_
    refine zj_i2l 472 X kd_P_execute_471 rfl ?_
    refine zj_iload_n 473 1 X kd_P_execute_472 rfl rfl rfl ?_
    refine zj_i2s 474 X kd_P_execute_473 rfl ?_
    refine zj_i2l 475 X kd_P_execute_474 rfl ?_
    refine zj_iconst 476 1 X kd_P_execute_475 ki_1 rfl ?_
    refine mc_P_218 479 X kd_P_execute_476 (Nat.le_of_ble_eq_true rfl) (Nat.le_of_ble_eq_true rfl) (Nat.le_of_ble_eq_true rfl) rfl (fun s33 => ?_)
    refine zj_goto 604 X kd_P_execute_479 rfl ?_
    exact zj_vret X kd_P_execute_604
  refine zj_tcase 482 X kd_P_execute_45 (by decide) (by decide) rfl rfl (fun _ => ?_) (fun h21 => ?_)
  · refine zj_aload_n 483 4 X kd_P_execute_482 rfl rfl rfl ?_
    refine mc_P_222 486 X kd_P_execute_483 (Nat.le_of_ble_eq_true rfl) (Nat.le_of_ble_eq_true rfl) (Nat.le_of_ble_eq_true rfl) rfl (fun s34 => ?_)
    refine zj_goto 604 X kd_P_execute_486 rfl ?_
    exact zj_vret X kd_P_execute_604
  refine zj_tcase 489 X kd_P_execute_45 (by decide) (by decide) rfl rfl (fun _ => ?_) (fun h22 => ?_)
  · refine zj_aload_n 490 4 X kd_P_execute_489 rfl rfl rfl ?_
    refine gf_P_22 493 X kd_P_execute_490 rfl ?_
    refine zj_aload_n 494 4 X kd_P_execute_493 rfl rfl rfl ?_
    refine gf_P_39 497 X kd_P_execute_494 rfl ?_
    refine gf_P_202 500 X kd_P_execute_497 rfl ?_
    refine pf_P_85 503 X kd_P_execute_500 rfl ?_
    refine zj_nms (fun s35 => ?_)
    refine zj_goto 604 X kd_P_execute_503 rfl ?_
    exact zj_vret X kd_P_execute_604
  refine zj_tcase 506 X kd_P_execute_45 (by decide) (by decide) rfl rfl (fun _ => ?_) (fun h23 => ?_)
  · refine zj_aload_n 507 4 X kd_P_execute_506 rfl rfl rfl ?_
    refine zj_aload_n 508 4 X kd_P_execute_507 rfl rfl rfl ?_
    refine gf_P_39 511 X kd_P_execute_508 rfl ?_
    refine gf_P_202 514 X kd_P_execute_511 rfl ?_
    refine mc_P_225 517 X kd_P_execute_514 (Nat.le_of_ble_eq_true rfl) (Nat.le_of_ble_eq_true rfl) (Nat.le_of_ble_eq_true rfl) rfl (fun s36 => ?_)
    refine zj_goto 604 X kd_P_execute_517 rfl ?_
    exact zj_vret X kd_P_execute_604
  refine zj_tcase 520 X kd_P_execute_45 (by decide) (by decide) rfl rfl (fun _ => ?_) (fun h24 => ?_)
  · refine zj_aload_n 521 4 X kd_P_execute_520 rfl rfl rfl ?_
    refine mc_P_228 524 X kd_P_execute_521 (Nat.le_of_ble_eq_true rfl) (Nat.le_of_ble_eq_true rfl) (Nat.le_of_ble_eq_true rfl) rfl (fun s37 => ?_)
    refine zj_goto 604 X kd_P_execute_524 rfl ?_
    exact zj_vret X kd_P_execute_604
  refine zj_tcase 527 X kd_P_execute_45 (by decide) (by decide) rfl rfl (fun _ => ?_) (fun h25 => ?_)
  · refine zj_aload_n 528 4 X kd_P_execute_527 rfl rfl rfl ?_
    refine zj_bipush 530 32 X kd_P_execute_528 kb_32 rfl ?_
    refine zj_aload_n 531 4 X kd_P_execute_530 rfl rfl rfl ?_
    refine gf_P_12 534 X kd_P_execute_531 rfl ?_
    refine gf_P_231 537 X kd_P_execute_534 rfl ?_
    refine zj_iadd 538 X kd_P_execute_537 rfl ?_
    refine zj_bipush 540 8 X kd_P_execute_538 kb_8 rfl ?_
    refine zj_aload_n 541 4 X kd_P_execute_540 rfl rfl rfl ?_
    refine gf_P_12 544 X kd_P_execute_541 rfl ?_
    refine gf_P_234 547 X kd_P_execute_544 rfl ?_
    refine zj_iconst 548 2 X kd_P_execute_547 ki_2 rfl ?_
    refine zj_irem 549 X kd_P_execute_548 (by decide) rfl ?_
    refine zj_imul 550 X kd_P_execute_549 rfl ?_
    refine zj_iadd 551 X kd_P_execute_550 rfl ?_
    refine pf_P_120 554 X kd_P_execute_551 rfl ?_
    refine zj_nms (fun s38 => ?_)
    refine zj_goto 604 X kd_P_execute_554 rfl ?_
    exact zj_vret X kd_P_execute_604
  refine zj_tcase 557 X kd_P_execute_45 (by decide) (by decide) rfl rfl (fun _ => ?_) (fun h26 => ?_)
  · refine zj_aload_n 558 4 X kd_P_execute_557 rfl rfl rfl ?_
    refine gf_P_22 561 X kd_P_execute_558 rfl ?_
    refine zj_iload_n 562 1 X kd_P_execute_561 rfl rfl rfl ?_
    refine mc_P_237 565 X kd_P_execute_562 (Nat.le_of_ble_eq_true rfl) (Nat.le_of_ble_eq_true rfl) (Nat.le_of_ble_eq_true rfl) rfl (fun s39 => ?_)
    refine zj_goto 604 X kd_P_execute_565 rfl ?_
    exact zj_vret X kd_P_execute_604
  refine zj_tcase 568 X kd_P_execute_45 (by decide) (by decide) rfl rfl (fun _ => ?_) (fun h27 => ?_)
  · refine zj_aload_n 569 4 X kd_P_execute_568 rfl rfl rfl ?_
    refine gf_P_39 572 X kd_P_execute_569 rfl ?_
    refine zj_aload_n 573 4 X kd_P_execute_572 rfl rfl rfl ?_
    refine gf_P_22 576 X kd_P_execute_573 rfl ?_
    refine gf_P_240 579 X kd_P_execute_576 rfl ?_
    refine mc_P_199 582 X kd_P_execute_579 (Nat.le_of_ble_eq_true rfl) (Nat.le_of_ble_eq_true rfl) (Nat.le_of_ble_eq_true rfl) rfl (fun s40 => ?_)
    refine zj_goto 604 X kd_P_execute_582 rfl ?_
    exact zj_vret X kd_P_execute_604
  refine zj_tcase 585 X kd_P_execute_45 (by decide) (by decide) rfl rfl (fun _ => ?_) (fun h28 => ?_)
  · refine zj_aload_n 586 4 X kd_P_execute_585 rfl rfl rfl ?_
    refine mc_P_243 589 X kd_P_execute_586 (Nat.le_of_ble_eq_true rfl) (Nat.le_of_ble_eq_true rfl) (Nat.le_of_ble_eq_true rfl) rfl (fun s41 => ?_)
    refine zj_goto 604 X kd_P_execute_589 rfl ?_
    exact zj_vret X kd_P_execute_604
  refine zj_tcase 592 X kd_P_execute_45 (by decide) (by decide) rfl rfl (fun _ => ?_) (fun h29 => ?_)
  · refine zj_aload_n 593 4 X kd_P_execute_592 rfl rfl rfl ?_
    refine zj_iload 595 0 X kd_P_execute_593 rfl rfl ?_
    refine zj_i2s 596 X kd_P_execute_595 rfl ?_
    refine zj_iload_n 597 1 X kd_P_execute_596 rfl rfl rfl ?_
    refine zj_i2s 598 X kd_P_execute_597 rfl ?_
    refine mc_P_246 601 X kd_P_execute_598 (Nat.le_of_ble_eq_true rfl) (Nat.le_of_ble_eq_true rfl) (Nat.le_of_ble_eq_true rfl) rfl (fun s42 => ?_)
    refine zj_goto 604 X kd_P_execute_601 rfl ?_
    exact zj_vret X kd_P_execute_604
  refine zj_tdef 604 X kd_P_execute_45 (by have h0 := lv_neT (a := 0) h0 rfl; have h1 := lv_neT (a := 1) h1 rfl; have h2 := lv_neT (a := 2) h2 rfl; have h3 := lv_neT (a := 3) h3 rfl; have h4 := lv_neT (a := 4) h4 rfl; have h5 := lv_neT (a := 5) h5 rfl; have h6 := lv_neT (a := 6) h6 rfl; have h7 := lv_neT (a := 7) h7 rfl; have h8 := lv_neT (a := 8) h8 rfl; have h9 := lv_neT (a := 9) h9 rfl; have h10 := lv_neT (a := 10) h10 rfl; have h11 := lv_neT (a := 11) h11 rfl; have h12 := lv_neT (a := 12) h12 rfl; have h13 := lv_neT (a := 13) h13 rfl; have h14 := lv_neT (a := 14) h14 rfl; have h15 := lv_neT (a := 15) h15 rfl; have h16 := lv_neT (a := 16) h16 rfl; have h17 := lv_neT (a := 17) h17 rfl; have h18 := lv_neT (a := 18) h18 rfl; have h19 := lv_neT (a := 19) h19 rfl; have h20 := lv_neT (a := 20) h20 rfl; have h21 := lv_neT (a := 21) h21 rfl; have h22 := lv_neT (a := 22) h22 rfl; have h23 := lv_neT (a := 23) h23 rfl; have h24 := lv_neT (a := 24) h24 rfl; have h25 := lv_neT (a := 25) h25 rfl; have h26 := lv_neT (a := 26) h26 rfl; have h27 := lv_neT (a := 27) h27 rfl; have h28 := lv_neT (a := 28) h28 rfl; have h29 := lv_neT (a := 29) h29 rfl; omega) rfl ?_
  exact zj_vret X kd_P_execute_604
theorem c_P_execute {l : Launch} {P : ZP} (hV : ZVok (zcV P)) (s0 : ZS)  {z : ZS} (h : f_P_execute s0  = some z) : zMv l y_P_execute b_P_execute 5 none 5 122 (zcV P) s0 [.ref (P.1 6)] z :=
  zMv_of (by decide +kernel) rfl rfl (Nat.le_of_ble_eq_true rfl) hV (fun _ X => j_P_execute X s0 ) h
theorem kc_P_110 : zCV "FrameMachine$Processor" 110 y_P_execute b_P_execute 5 none 0 := ⟨⟨kw_598, kw_600, ksel_11, kw_7, kw_601⟩, by decide +kernel, by decide +kernel, by decide +kernel⟩
theorem mc_P_110 {ρ : Type} {E : ZE} {P : ZP} {A : Nat → Prop} {cc : ByteArray} {nL : Nat} {ret : Option FieldType} {fr lo : Nat} {F : ρ → State → Prop} {pc : Nat} {L : List (Nat × Value)} {rest : List Value} {σ : ZS}  {K : ZS → Option ρ} (q : Nat) (X : ZX E (zcV P) A "FrameMachine$Processor" cc nL ret fr lo) (d : decode cc pc = .ok (.invokevirtual 110, 3)) (hfr : 5 + 1 ≤ fr) (hlo : 8 + (5 + 11) + 122 ≤ lo) (hr : (rest.map fun v => v.category).sum ≤ 8) (hq : pc + 3 = q) (kk : ∀ p : ZS, ZJ E (zcV P) A nL F q L (rest) p (K p)) : ZJ E (zcV P) A nL F pc L (.ref (P.1 6) :: rest) σ ((f_P_execute σ ).bind K) :=
  zj_cVv q 6 6 (As := []) (rest := rest) X kc_P_110 hfr hlo (fun p h => c_P_execute (zx_v X) σ  h) rfl rfl rfl hr d hq kk
