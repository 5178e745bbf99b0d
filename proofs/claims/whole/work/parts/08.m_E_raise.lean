-- FrameMachine$Exceptions.raise(III)V
theorem kd_E_raise_0 : decode b_E_raise 0 = .ok (.aload_n 0, 1) := by decide +kernel
theorem kd_E_raise_1 : decode b_E_raise 1 = .ok (.iload_n 1, 1) := by decide +kernel
theorem kd_E_raise_2 : decode b_E_raise 2 = .ok (.iload_n 2, 1) := by decide +kernel
theorem kd_E_raise_3 : decode b_E_raise 3 = .ok (.iload_n 3, 1) := by decide +kernel
theorem kd_E_raise_4 : decode b_E_raise 4 = .ok (.invokevirtual 23, 3) := by decide +kernel
theorem kd_E_raise_7 : decode b_E_raise 7 = .ok (.aload_n 0, 1) := by decide +kernel
theorem kd_E_raise_8 : decode b_E_raise 8 = .ok (.getfield 9, 3) := by decide +kernel
theorem kd_E_raise_11 : decode b_E_raise 11 = .ok (.getfield 27, 3) := by decide +kernel
theorem kd_E_raise_14 : decode b_E_raise 14 = .ok (.ifCond .eq 29, 3) := by decide +kernel
theorem kd_E_raise_17 : decode b_E_raise 17 = .ok (.iload_n 1, 1) := by decide +kernel
theorem kd_E_raise_18 : decode b_E_raise 18 = .ok (.invokestatic 33, 3) := by decide +kernel
theorem kd_E_raise_21 : decode b_E_raise 21 = .ok (.ifCond .ne 22, 3) := by decide +kernel
theorem kd_E_raise_24 : decode b_E_raise 24 = .ok (.aload_n 0, 1) := by decide +kernel
theorem kd_E_raise_25 : decode b_E_raise 25 = .ok (.aload_n 0, 1) := by decide +kernel
theorem kd_E_raise_26 : decode b_E_raise 26 = .ok (.getfield 9, 3) := by decide +kernel
theorem kd_E_raise_29 : decode b_E_raise 29 = .ok (.getfield 27, 3) := by decide +kernel
theorem kd_E_raise_32 : decode b_E_raise 32 = .ok (.aload_n 0, 1) := by decide +kernel
theorem kd_E_raise_33 : decode b_E_raise 33 = .ok (.getfield 15, 3) := by decide +kernel
theorem kd_E_raise_36 : decode b_E_raise 36 = .ok (.getfield 37, 3) := by decide +kernel
theorem kd_E_raise_39 : decode b_E_raise 39 = .ok (.iload_n 3, 1) := by decide +kernel
theorem kd_E_raise_40 : decode b_E_raise 40 = .ok (.invokevirtual 23, 3) := by decide +kernel
theorem kd_E_raise_43 : decode b_E_raise 43 = .ok (.aload_n 0, 1) := by decide +kernel
theorem kd_E_raise_44 : decode b_E_raise 44 = .ok (.getfield 9, 3) := by decide +kernel
theorem kd_E_raise_47 : decode b_E_raise 47 = .ok (.getfield 27, 3) := by decide +kernel
theorem kd_E_raise_50 : decode b_E_raise 50 = .ok (.ifCond .eq 19, 3) := by decide +kernel
theorem kd_E_raise_53 : decode b_E_raise 53 = .ok (.aload_n 0, 1) := by decide +kernel
theorem kd_E_raise_54 : decode b_E_raise 54 = .ok (.aload_n 0, 1) := by decide +kernel
theorem kd_E_raise_55 : decode b_E_raise 55 = .ok (.getfield 9, 3) := by decide +kernel
theorem kd_E_raise_58 : decode b_E_raise 58 = .ok (.getfield 27, 3) := by decide +kernel
theorem kd_E_raise_61 : decode b_E_raise 61 = .ok (.invokevirtual 42, 3) := by decide +kernel
theorem kd_E_raise_64 : decode b_E_raise 64 = .ok (.aload_n 0, 1) := by decide +kernel
theorem kd_E_raise_65 : decode b_E_raise 65 = .ok (.iconst 1, 1) := by decide +kernel
theorem kd_E_raise_66 : decode b_E_raise 66 = .ok (.putfield 46, 3) := by decide +kernel
theorem kd_E_raise_69 : decode b_E_raise 69 = .ok (.return_, 1) := by decide +kernel
noncomputable def f_E_raise_43 (s0 : ZS)  : Option (ZS) :=
  if (s0 0 10) = 0 then
    some s0
  else
    (f_E_note s0 (s0 0 10)).bind fun s2 =>
    zs_nm (zs_up s2 0 18 1) fun s3 =>
    some s3
noncomputable def f_E_raise (s0 : ZS) (x1 : Int32) (x2 : Int32) (x3 : Int32) : Option (ZS) :=
  (f_E_enter s0 x1 x2 x3).bind fun s1 =>
  if (s1 0 10) = 0 then
    f_E_raise_43 s1
  else
    (f_E_isOfAccess s1 x1).bind fun p4 =>
    if p4.1 = 0 then
      (f_E_enter p4.2 (p4.2 0 10) (p4.2 0 14) x3).bind fun s5 =>
      f_E_raise_43 s5
    else
      f_E_raise_43 p4.2
theorem j_E_raise_43 {P : ZP} {E : ZE} {A : Nat → Prop} (X : ZX E (zcV P) A "FrameMachine$Exceptions" b_E_raise 4 none 4 98) (s0 : ZS)  : ZJ E (zcV P) A 4 (zFv E (zcV P) A) 43 [(0, .ref (P.1 5))] [] s0 (f_E_raise_43 s0) := by
  unfold f_E_raise_43
  refine zj_aload_n 44 0 X kd_E_raise_43 rfl rfl rfl ?_
  refine gf_E_9 47 X kd_E_raise_44 rfl ?_
  refine gf_E_27 50 X kd_E_raise_47 rfl ?_
  refine zj_if_eq 69 53 X kd_E_raise_50 rfl rfl (fun _ => ?_) (fun _ => ?_)
  · exact zj_vret X kd_E_raise_69
  · refine zj_aload_n 54 0 X kd_E_raise_53 rfl rfl rfl ?_
    refine zj_aload_n 55 0 X kd_E_raise_54 rfl rfl rfl ?_
    refine gf_E_9 58 X kd_E_raise_55 rfl ?_
    refine gf_E_27 61 X kd_E_raise_58 rfl ?_
    refine mc_E_42 64 X kd_E_raise_61 (Nat.le_of_ble_eq_true rfl) (Nat.le_of_ble_eq_true rfl) (Nat.le_of_ble_eq_true rfl) rfl (fun s2 => ?_)
    refine zj_aload_n 65 0 X kd_E_raise_64 rfl rfl rfl ?_
    refine zj_iconst 66 1 X kd_E_raise_65 ki_1 rfl ?_
    refine pf_E_46 69 X kd_E_raise_66 (Or.inr rfl) rfl ?_
    refine zj_nms (fun s3 => ?_)
    exact zj_vret X kd_E_raise_69
theorem j_E_raise {P : ZP} {E : ZE} {A : Nat → Prop} (X : ZX E (zcV P) A "FrameMachine$Exceptions" b_E_raise 4 none 4 98) (s0 : ZS) (x1 : Int32) (x2 : Int32) (x3 : Int32) : ZJ E (zcV P) A 4 (zFv E (zcV P) A) 0 [(0, .ref (P.1 5)), (1, .int x1), (2, .int x2), (3, .int x3)] [] s0 (f_E_raise s0 x1 x2 x3) := by
  unfold f_E_raise
  refine zj_aload_n 1 0 X kd_E_raise_0 rfl rfl rfl ?_
  refine zj_iload_n 2 1 X kd_E_raise_1 rfl rfl rfl ?_
  refine zj_iload_n 3 2 X kd_E_raise_2 rfl rfl rfl ?_
  refine zj_iload_n 4 3 X kd_E_raise_3 rfl rfl rfl ?_
  refine mc_E_23 7 X kd_E_raise_4 (Nat.le_of_ble_eq_true rfl) (Nat.le_of_ble_eq_true rfl) (Nat.le_of_ble_eq_true rfl) rfl (fun s1 => ?_)
  refine zj_aload_n 8 0 X kd_E_raise_7 rfl rfl rfl ?_
  refine gf_E_9 11 X kd_E_raise_8 rfl ?_
  refine gf_E_27 14 X kd_E_raise_11 rfl ?_
  refine zj_if_eq 43 17 X kd_E_raise_14 rfl rfl (fun _ => ?_) (fun _ => ?_)
  · refine zj_loc [0] (L2 := [(0, .ref (P.1 5))]) rfl ?_
    exact j_E_raise_43 X s1
  · refine zj_iload_n 18 1 X kd_E_raise_17 rfl rfl rfl ?_
    refine mc_E_33 21 X kd_E_raise_18 (Nat.le_of_ble_eq_true rfl) (Nat.le_of_ble_eq_true rfl) (Nat.le_of_ble_eq_true rfl) rfl (fun p4 => ?_)
    refine zj_if_ne 43 24 X kd_E_raise_21 rfl rfl (fun _ => ?_) (fun _ => ?_)
    · refine zj_aload_n 25 0 X kd_E_raise_24 rfl rfl rfl ?_
      refine zj_aload_n 26 0 X kd_E_raise_25 rfl rfl rfl ?_
      refine gf_E_9 29 X kd_E_raise_26 rfl ?_
      refine gf_E_27 32 X kd_E_raise_29 rfl ?_
      refine zj_aload_n 33 0 X kd_E_raise_32 rfl rfl rfl ?_
      refine gf_E_15 36 X kd_E_raise_33 rfl ?_
      refine gf_E_37 39 X kd_E_raise_36 rfl ?_
      refine zj_iload_n 40 3 X kd_E_raise_39 rfl rfl rfl ?_
      refine mc_E_23 43 X kd_E_raise_40 (Nat.le_of_ble_eq_true rfl) (Nat.le_of_ble_eq_true rfl) (Nat.le_of_ble_eq_true rfl) rfl (fun s5 => ?_)
      refine zj_loc [0] (L2 := [(0, .ref (P.1 5))]) rfl ?_
      exact j_E_raise_43 X s5
    · refine zj_loc [0] (L2 := [(0, .ref (P.1 5))]) rfl ?_
      exact j_E_raise_43 X p4.2
theorem c_E_raise {l : Launch} {P : ZP} (hV : ZVok (zcV P)) (s0 : ZS) (x1 : Int32) (x2 : Int32) (x3 : Int32) {z : ZS} (h : f_E_raise s0 x1 x2 x3 = some z) : zMv l y_E_raise b_E_raise 4 none 4 98 (zcV P) s0 [.ref (P.1 5), .int x1, .int x2, .int x3] z :=
  zMv_of (by decide +kernel) rfl rfl (Nat.le_of_ble_eq_true rfl) hV (fun _ X => j_E_raise X s0 x1 x2 x3) h
theorem kc_P_88 : zCV "FrameMachine$Processor" 88 y_E_raise b_E_raise 4 none 3 := ⟨⟨kw_490, kw_491, kw_492, kw_6, kw_493⟩, by decide +kernel, by decide +kernel, by decide +kernel⟩
theorem mc_P_88 {ρ : Type} {E : ZE} {P : ZP} {A : Nat → Prop} {cc : ByteArray} {nL : Nat} {ret : Option FieldType} {fr lo : Nat} {F : ρ → State → Prop} {pc : Nat} {L : List (Nat × Value)} {rest : List Value} {σ : ZS} {x1 : Int32} {x2 : Int32} {x3 : Int32} {K : ZS → Option ρ} (q : Nat) (X : ZX E (zcV P) A "FrameMachine$Processor" cc nL ret fr lo) (d : decode cc pc = .ok (.invokevirtual 88, 3)) (hfr : 4 + 1 ≤ fr) (hlo : 8 + (4 + 11) + 98 ≤ lo) (hr : (rest.map fun v => v.category).sum ≤ 8) (hq : pc + 3 = q) (kk : ∀ p : ZS, ZJ E (zcV P) A nL F q L (rest) p (K p)) : ZJ E (zcV P) A nL F pc L (.int x3 :: .int x2 :: .int x1 :: .ref (P.1 5) :: rest) σ ((f_E_raise σ x1 x2 x3).bind K) :=
  zj_cVv q 5 5 (As := [.int x1, .int x2, .int x3]) (rest := rest) X kc_P_88 hfr hlo (fun p h => c_E_raise (zx_v X) σ x1 x2 x3 h) rfl rfl rfl hr d hq kk
-- FrameMachine$Exceptions.latestForbidsTrace()Z
theorem kd_E_latestForbidsTrace_0 : decode b_E_latestForbidsTrace 0 = .ok (.aload_n 0, 1) := by decide +kernel
theorem kd_E_latestForbidsTrace_1 : decode b_E_latestForbidsTrace 1 = .ok (.getfield 75, 3) := by decide +kernel
theorem kd_E_latestForbidsTrace_4 : decode b_E_latestForbidsTrace 4 = .ok (.invokestatic 33, 3) := by decide +kernel
theorem kd_E_latestForbidsTrace_7 : decode b_E_latestForbidsTrace 7 = .ok (.ifCond .ne 20, 3) := by decide +kernel
theorem kd_E_latestForbidsTrace_10 : decode b_E_latestForbidsTrace 10 = .ok (.aload_n 0, 1) := by decide +kernel
theorem kd_E_latestForbidsTrace_11 : decode b_E_latestForbidsTrace 11 = .ok (.getfield 75, 3) := by decide +kernel
theorem kd_E_latestForbidsTrace_14 : decode b_E_latestForbidsTrace 14 = .ok (.iconst 4, 1) := by decide +kernel
theorem kd_E_latestForbidsTrace_15 : decode b_E_latestForbidsTrace 15 = .ok (.if_icmp .eq 12, 3) := by decide +kernel
theorem kd_E_latestForbidsTrace_18 : decode b_E_latestForbidsTrace 18 = .ok (.aload_n 0, 1) := by decide +kernel
theorem kd_E_latestForbidsTrace_19 : decode b_E_latestForbidsTrace 19 = .ok (.getfield 75, 3) := by decide +kernel
theorem kd_E_latestForbidsTrace_22 : decode b_E_latestForbidsTrace 22 = .ok (.bipush 8, 2) := by decide +kernel
theorem kd_E_latestForbidsTrace_24 : decode b_E_latestForbidsTrace 24 = .ok (.if_icmp .ne 7, 3) := by decide +kernel
theorem kd_E_latestForbidsTrace_27 : decode b_E_latestForbidsTrace 27 = .ok (.iconst 1, 1) := by decide +kernel
theorem kd_E_latestForbidsTrace_28 : decode b_E_latestForbidsTrace 28 = .ok (.goto 4, 3) := by decide +kernel
theorem kd_E_latestForbidsTrace_31 : decode b_E_latestForbidsTrace 31 = .ok (.iconst 0, 1) := by decide +kernel
theorem kd_E_latestForbidsTrace_32 : decode b_E_latestForbidsTrace 32 = .ok (.ireturn, 1) := by decide +kernel
noncomputable def f_E_latestForbidsTrace_27 (s0 : ZS)  : Option (Int32 × ZS) :=
  some (1, s0)
noncomputable def f_E_latestForbidsTrace (s0 : ZS)  : Option (Int32 × ZS) :=
  (f_E_isOfAccess s0 (s0 0 16)).bind fun p1 =>
  if p1.1 = 0 then
    if (p1.2 0 16) = 4 then
      f_E_latestForbidsTrace_27 p1.2
    else
      if (p1.2 0 16) = 8 then
        f_E_latestForbidsTrace_27 p1.2
      else
        some (0, p1.2)
  else
    f_E_latestForbidsTrace_27 p1.2
theorem j_E_latestForbidsTrace_27 {P : ZP} {E : ZE} {A : Nat → Prop} (X : ZX E (zcV P) A "FrameMachine$Exceptions" b_E_latestForbidsTrace 1 (some .boolean) 1 20) (s0 : ZS)  : ZJ E (zcV P) A 1 (zFi E (zcV P) A) 27 [] [] s0 (f_E_latestForbidsTrace_27 s0) := by
  unfold f_E_latestForbidsTrace_27
  refine zj_iconst 28 1 X kd_E_latestForbidsTrace_27 ki_1 rfl ?_
  refine zj_goto 32 X kd_E_latestForbidsTrace_28 rfl ?_
  exact zj_zret X kd_E_latestForbidsTrace_32 (Or.inr rfl)
theorem j_E_latestForbidsTrace {P : ZP} {E : ZE} {A : Nat → Prop} (X : ZX E (zcV P) A "FrameMachine$Exceptions" b_E_latestForbidsTrace 1 (some .boolean) 1 20) (s0 : ZS)  : ZJ E (zcV P) A 1 (zFi E (zcV P) A) 0 [(0, .ref (P.1 5))] [] s0 (f_E_latestForbidsTrace s0) := by
  unfold f_E_latestForbidsTrace
  refine zj_aload_n 1 0 X kd_E_latestForbidsTrace_0 rfl rfl rfl ?_
  refine gf_E_75 4 X kd_E_latestForbidsTrace_1 rfl ?_
  refine mc_E_33 7 X kd_E_latestForbidsTrace_4 (Nat.le_of_ble_eq_true rfl) (Nat.le_of_ble_eq_true rfl) (Nat.le_of_ble_eq_true rfl) rfl (fun p1 => ?_)
  refine zj_if_ne 27 10 X kd_E_latestForbidsTrace_7 rfl rfl (fun _ => ?_) (fun _ => ?_)
  · refine zj_aload_n 11 0 X kd_E_latestForbidsTrace_10 rfl rfl rfl ?_
    refine gf_E_75 14 X kd_E_latestForbidsTrace_11 rfl ?_
    refine zj_iconst 15 4 X kd_E_latestForbidsTrace_14 ki_4 rfl ?_
    refine zj_icmp_eq 27 18 X kd_E_latestForbidsTrace_15 rfl rfl (fun _ => ?_) (fun _ => ?_)
    · refine zj_loc [] (L2 := []) rfl ?_
      exact j_E_latestForbidsTrace_27 X p1.2
    · refine zj_aload_n 19 0 X kd_E_latestForbidsTrace_18 rfl rfl rfl ?_
      refine gf_E_75 22 X kd_E_latestForbidsTrace_19 rfl ?_
      refine zj_bipush 24 8 X kd_E_latestForbidsTrace_22 kb_8 rfl ?_
      refine zj_icmp_ne 31 27 X kd_E_latestForbidsTrace_24 rfl rfl (fun _ => ?_) (fun _ => ?_)
      · refine zj_loc [] (L2 := []) rfl ?_
        exact j_E_latestForbidsTrace_27 X p1.2
      · refine zj_iconst 32 0 X kd_E_latestForbidsTrace_31 ki_0 rfl ?_
        exact zj_zret X kd_E_latestForbidsTrace_32 (Or.inl rfl)
  · refine zj_loc [] (L2 := []) rfl ?_
    exact j_E_latestForbidsTrace_27 X p1.2
theorem c_E_latestForbidsTrace {l : Launch} {P : ZP} (hV : ZVok (zcV P)) (s0 : ZS)  {z : Int32 × ZS} (h : f_E_latestForbidsTrace s0  = some z) : zMi l y_E_latestForbidsTrace b_E_latestForbidsTrace 1 (some .boolean) 1 20 (zcV P) s0 [.ref (P.1 5)] z :=
  zMi_of (by decide +kernel) rfl rfl (Nat.le_of_ble_eq_true rfl) hV (fun _ X => j_E_latestForbidsTrace X s0 ) h
theorem kc_P_154 : zCV "FrameMachine$Processor" 154 y_E_latestForbidsTrace b_E_latestForbidsTrace 1 (some .boolean) 0 := ⟨⟨kw_743, kw_744, kw_745, kw_6, kw_746⟩, by decide +kernel, by decide +kernel, by decide +kernel⟩
theorem mc_P_154 {ρ : Type} {E : ZE} {P : ZP} {A : Nat → Prop} {cc : ByteArray} {nL : Nat} {ret : Option FieldType} {fr lo : Nat} {F : ρ → State → Prop} {pc : Nat} {L : List (Nat × Value)} {rest : List Value} {σ : ZS}  {K : Int32 × ZS → Option ρ} (q : Nat) (X : ZX E (zcV P) A "FrameMachine$Processor" cc nL ret fr lo) (d : decode cc pc = .ok (.invokevirtual 154, 3)) (hfr : 1 + 1 ≤ fr) (hlo : 8 + (1 + 11) + 20 ≤ lo) (hr : (rest.map fun v => v.category).sum ≤ 8) (hq : pc + 3 = q) (kk : ∀ p : Int32 × ZS, ZJ E (zcV P) A nL F q L (.int p.1 :: rest) p.2 (K p)) : ZJ E (zcV P) A nL F pc L (.ref (P.1 5) :: rest) σ ((f_E_latestForbidsTrace σ ).bind K) :=
  zj_cVi q 5 5 (As := []) (rest := rest) X kc_P_154 hfr hlo (fun p h => c_E_latestForbidsTrace (zx_v X) σ  h) rfl rfl rfl hr d hq kk
-- FrameMachine$Processor.finish(Z)V
theorem kd_P_finish_0 : decode b_P_finish 0 = .ok (.aload_n 0, 1) := by decide +kernel
theorem kd_P_finish_1 : decode b_P_finish 1 = .ok (.getfield 18, 3) := by decide +kernel
theorem kd_P_finish_4 : decode b_P_finish 4 = .ok (.getfield 117, 3) := by decide +kernel
theorem kd_P_finish_7 : decode b_P_finish 7 = .ok (.ifCond .eq 14, 3) := by decide +kernel
theorem kd_P_finish_10 : decode b_P_finish 10 = .ok (.aload_n 0, 1) := by decide +kernel
theorem kd_P_finish_11 : decode b_P_finish 11 = .ok (.aload_n 0, 1) := by decide +kernel
theorem kd_P_finish_12 : decode b_P_finish 12 = .ok (.getfield 18, 3) := by decide +kernel
theorem kd_P_finish_15 : decode b_P_finish 15 = .ok (.getfield 117, 3) := by decide +kernel
theorem kd_P_finish_18 : decode b_P_finish 18 = .ok (.putfield 120, 3) := by decide +kernel
theorem kd_P_finish_21 : decode b_P_finish 21 = .ok (.aload_n 0, 1) := by decide +kernel
theorem kd_P_finish_22 : decode b_P_finish 22 = .ok (.getfield 82, 3) := by decide +kernel
theorem kd_P_finish_25 : decode b_P_finish 25 = .ok (.ifCond .ne 7, 3) := by decide +kernel
theorem kd_P_finish_28 : decode b_P_finish 28 = .ok (.iconst 1, 1) := by decide +kernel
theorem kd_P_finish_29 : decode b_P_finish 29 = .ok (.goto 4, 3) := by decide +kernel
theorem kd_P_finish_32 : decode b_P_finish 32 = .ok (.iconst 0, 1) := by decide +kernel
theorem kd_P_finish_33 : decode b_P_finish 33 = .ok (.istore_n 2, 1) := by decide +kernel
theorem kd_P_finish_34 : decode b_P_finish 34 = .ok (.aload_n 0, 1) := by decide +kernel
theorem kd_P_finish_35 : decode b_P_finish 35 = .ok (.getfield 120, 3) := by decide +kernel
theorem kd_P_finish_38 : decode b_P_finish 38 = .ok (.ifCond .eq 78, 3) := by decide +kernel
theorem kd_P_finish_41 : decode b_P_finish 41 = .ok (.aload_n 0, 1) := by decide +kernel
theorem kd_P_finish_42 : decode b_P_finish 42 = .ok (.getfield 120, 3) := by decide +kernel
theorem kd_P_finish_45 : decode b_P_finish 45 = .ok (.iconst 4, 1) := by decide +kernel
theorem kd_P_finish_46 : decode b_P_finish 46 = .ok (.if_icmp .eq 12, 3) := by decide +kernel
theorem kd_P_finish_49 : decode b_P_finish 49 = .ok (.aload_n 0, 1) := by decide +kernel
theorem kd_P_finish_50 : decode b_P_finish 50 = .ok (.getfield 120, 3) := by decide +kernel
theorem kd_P_finish_53 : decode b_P_finish 53 = .ok (.bipush 8, 2) := by decide +kernel
theorem kd_P_finish_55 : decode b_P_finish 55 = .ok (.if_icmp .ne 7, 3) := by decide +kernel
theorem kd_P_finish_58 : decode b_P_finish 58 = .ok (.iconst 1, 1) := by decide +kernel
theorem kd_P_finish_59 : decode b_P_finish 59 = .ok (.goto 4, 3) := by decide +kernel
theorem kd_P_finish_62 : decode b_P_finish 62 = .ok (.iconst 0, 1) := by decide +kernel
theorem kd_P_finish_63 : decode b_P_finish 63 = .ok (.istore_n 3, 1) := by decide +kernel
theorem kd_P_finish_64 : decode b_P_finish 64 = .ok (.aload_n 0, 1) := by decide +kernel
theorem kd_P_finish_65 : decode b_P_finish 65 = .ok (.getfield 30, 3) := by decide +kernel
theorem kd_P_finish_68 : decode b_P_finish 68 = .ok (.aload_n 0, 1) := by decide +kernel
theorem kd_P_finish_69 : decode b_P_finish 69 = .ok (.getfield 120, 3) := by decide +kernel
theorem kd_P_finish_72 : decode b_P_finish 72 = .ok (.iload_n 3, 1) := by decide +kernel
theorem kd_P_finish_73 : decode b_P_finish 73 = .ok (.ifCond .eq 10, 3) := by decide +kernel
theorem kd_P_finish_76 : decode b_P_finish 76 = .ok (.aload_n 0, 1) := by decide +kernel
theorem kd_P_finish_77 : decode b_P_finish 77 = .ok (.getfield 123, 3) := by decide +kernel
theorem kd_P_finish_80 : decode b_P_finish 80 = .ok (.goto 10, 3) := by decide +kernel
theorem kd_P_finish_83 : decode b_P_finish 83 = .ok (.aload_n 0, 1) := by decide +kernel
theorem kd_P_finish_84 : decode b_P_finish 84 = .ok (.getfield 22, 3) := by decide +kernel
theorem kd_P_finish_87 : decode b_P_finish 87 = .ok (.getfield 85, 3) := by decide +kernel
theorem kd_P_finish_90 : decode b_P_finish 90 = .ok (.aload_n 0, 1) := by decide +kernel
theorem kd_P_finish_91 : decode b_P_finish 91 = .ok (.getfield 12, 3) := by decide +kernel
theorem kd_P_finish_94 : decode b_P_finish 94 = .ok (.getfield 151, 3) := by decide +kernel
theorem kd_P_finish_97 : decode b_P_finish 97 = .ok (.invokevirtual 88, 3) := by decide +kernel
theorem kd_P_finish_100 : decode b_P_finish 100 = .ok (.aload_n 0, 1) := by decide +kernel
theorem kd_P_finish_101 : decode b_P_finish 101 = .ok (.getfield 30, 3) := by decide +kernel
theorem kd_P_finish_104 : decode b_P_finish 104 = .ok (.invokevirtual 154, 3) := by decide +kernel
theorem kd_P_finish_107 : decode b_P_finish 107 = .ok (.ifCond .ne 7, 3) := by decide +kernel
theorem kd_P_finish_110 : decode b_P_finish 110 = .ok (.iconst 1, 1) := by decide +kernel
theorem kd_P_finish_111 : decode b_P_finish 111 = .ok (.goto 4, 3) := by decide +kernel
theorem kd_P_finish_114 : decode b_P_finish 114 = .ok (.iconst 0, 1) := by decide +kernel
theorem kd_P_finish_115 : decode b_P_finish 115 = .ok (.istore_n 2, 1) := by decide +kernel
theorem kd_P_finish_116 : decode b_P_finish 116 = .ok (.iload_n 1, 1) := by decide +kernel
theorem kd_P_finish_117 : decode b_P_finish 117 = .ok (.ifCond .eq 30, 3) := by decide +kernel
theorem kd_P_finish_120 : decode b_P_finish 120 = .ok (.iload_n 2, 1) := by decide +kernel
theorem kd_P_finish_121 : decode b_P_finish 121 = .ok (.ifCond .eq 26, 3) := by decide +kernel
theorem kd_P_finish_124 : decode b_P_finish 124 = .ok (.aload_n 0, 1) := by decide +kernel
theorem kd_P_finish_125 : decode b_P_finish 125 = .ok (.getfield 30, 3) := by decide +kernel
theorem kd_P_finish_128 : decode b_P_finish 128 = .ok (.bipush 9, 2) := by decide +kernel
theorem kd_P_finish_130 : decode b_P_finish 130 = .ok (.aload_n 0, 1) := by decide +kernel
theorem kd_P_finish_131 : decode b_P_finish 131 = .ok (.getfield 22, 3) := by decide +kernel
theorem kd_P_finish_134 : decode b_P_finish 134 = .ok (.getfield 85, 3) := by decide +kernel
theorem kd_P_finish_137 : decode b_P_finish 137 = .ok (.aload_n 0, 1) := by decide +kernel
theorem kd_P_finish_138 : decode b_P_finish 138 = .ok (.getfield 12, 3) := by decide +kernel
theorem kd_P_finish_141 : decode b_P_finish 141 = .ok (.getfield 151, 3) := by decide +kernel
theorem kd_P_finish_144 : decode b_P_finish 144 = .ok (.invokevirtual 88, 3) := by decide +kernel
theorem kd_P_finish_147 : decode b_P_finish 147 = .ok (.return_, 1) := by decide +kernel
noncomputable def f_P_finish_116 (s0 : ZS) (l1 : Int32) (l2 : Int32) : Option (ZS) :=
  if l1 = 0 then
    some s0
  else
    if l2 = 0 then
      some s0
    else
      (f_E_raise s0 9 (s0 0 14) (s0 0 23)).bind fun s1 =>
      some s1
noncomputable def f_P_finish_115 (s0 : ZS) (l1 : Int32) (t0 : Int32) : Option (ZS) :=
  f_P_finish_116 s0 l1 t0
noncomputable def f_P_finish_90 (s0 : ZS) (l1 : Int32) (t0 : Int32) (t1 : Int32) : Option (ZS) :=
  (f_E_raise s0 t1 t0 (s0 0 23)).bind fun s2 =>
  (f_E_latestForbidsTrace s2 ).bind fun p3 =>
  if p3.1 = 0 then
    f_P_finish_115 p3.2 l1 1
  else
    f_P_finish_115 p3.2 l1 0
noncomputable def f_P_finish_63 (s0 : ZS) (l1 : Int32) (t0 : Int32) : Option (ZS) :=
  if t0 = 0 then
    f_P_finish_90 s0 l1 ((s0 0 14)) ((s0 0 22))
  else
    f_P_finish_90 s0 l1 ((s0 0 21)) ((s0 0 22))
noncomputable def f_P_finish_58 (s0 : ZS) (l1 : Int32) : Option (ZS) :=
  f_P_finish_63 s0 l1 1
noncomputable def f_P_finish_33 (s0 : ZS) (l1 : Int32) (t0 : Int32) : Option (ZS) :=
  if (s0 0 22) = 0 then
    f_P_finish_116 s0 l1 t0
  else
    if (s0 0 22) = 4 then
      f_P_finish_58 s0 l1
    else
      if (s0 0 22) = 8 then
        f_P_finish_58 s0 l1
      else
        f_P_finish_63 s0 l1 0
noncomputable def f_P_finish_21 (s0 : ZS) (l1 : Int32) : Option (ZS) :=
  if (s0 0 20) = 0 then
    f_P_finish_33 s0 l1 1
  else
    f_P_finish_33 s0 l1 0
noncomputable def f_P_finish (s0 : ZS) (x1 : Int32) : Option (ZS) :=
  if (s0 0 10) = 0 then
    f_P_finish_21 s0 x1
  else
    zs_nm (zs_up s0 0 22 (s0 0 10)) fun s4 =>
    f_P_finish_21 s4 x1
theorem j_P_finish_116 {P : ZP} {E : ZE} {A : Nat → Prop} (X : ZX E (zcV P) A "FrameMachine$Processor" b_P_finish 4 none 5 121) (s0 : ZS) (l1 : Int32) (l2 : Int32) : ZJ E (zcV P) A 4 (zFv E (zcV P) A) 116 [(0, .ref (P.1 6)), (1, .int l1), (2, .int l2)] [] s0 (f_P_finish_116 s0 l1 l2) := by
  unfold f_P_finish_116
  refine zj_iload_n 117 1 X kd_P_finish_116 rfl rfl rfl ?_
  refine zj_if_eq 147 120 X kd_P_finish_117 rfl rfl (fun _ => ?_) (fun _ => ?_)
  · exact zj_vret X kd_P_finish_147
  · refine zj_iload_n 121 2 X kd_P_finish_120 rfl rfl rfl ?_
    refine zj_if_eq 147 124 X kd_P_finish_121 rfl rfl (fun _ => ?_) (fun _ => ?_)
    · exact zj_vret X kd_P_finish_147
    · refine zj_aload_n 125 0 X kd_P_finish_124 rfl rfl rfl ?_
      refine gf_P_30 128 X kd_P_finish_125 rfl ?_
      refine zj_bipush 130 9 X kd_P_finish_128 kb_9 rfl ?_
      refine zj_aload_n 131 0 X kd_P_finish_130 rfl rfl rfl ?_
      refine gf_P_22 134 X kd_P_finish_131 rfl ?_
      refine gf_P_85 137 X kd_P_finish_134 rfl ?_
      refine zj_aload_n 138 0 X kd_P_finish_137 rfl rfl rfl ?_
      refine gf_P_12 141 X kd_P_finish_138 rfl ?_
      refine gf_P_151 144 X kd_P_finish_141 rfl ?_
      refine mc_P_88 147 X kd_P_finish_144 (Nat.le_of_ble_eq_true rfl) (Nat.le_of_ble_eq_true rfl) (Nat.le_of_ble_eq_true rfl) rfl (fun s1 => ?_)
      exact zj_vret X kd_P_finish_147
theorem j_P_finish_115 {P : ZP} {E : ZE} {A : Nat → Prop} (X : ZX E (zcV P) A "FrameMachine$Processor" b_P_finish 4 none 5 121) (s0 : ZS) (l1 : Int32) (t0 : Int32) : ZJ E (zcV P) A 4 (zFv E (zcV P) A) 115 [(0, .ref (P.1 6)), (1, .int l1)] [.int t0] s0 (f_P_finish_115 s0 l1 t0) := by
  unfold f_P_finish_115
  refine zj_istore_n 116 [(2, .int t0), (0, .ref (P.1 6)), (1, .int l1)] X kd_P_finish_115 rfl (Nat.le_of_ble_eq_true rfl) rfl rfl ?_
  refine zj_loc [1, 2, 0] (L2 := [(0, .ref (P.1 6)), (1, .int l1), (2, .int t0)]) rfl ?_
  exact j_P_finish_116 X s0 l1 t0
theorem j_P_finish_90 {P : ZP} {E : ZE} {A : Nat → Prop} (X : ZX E (zcV P) A "FrameMachine$Processor" b_P_finish 4 none 5 121) (s0 : ZS) (l1 : Int32) (t0 : Int32) (t1 : Int32) : ZJ E (zcV P) A 4 (zFv E (zcV P) A) 90 [(0, .ref (P.1 6)), (1, .int l1)] [.int t0, .int t1, .ref (P.1 5)] s0 (f_P_finish_90 s0 l1 t0 t1) := by
  unfold f_P_finish_90
  refine zj_aload_n 91 0 X kd_P_finish_90 rfl rfl rfl ?_
  refine gf_P_12 94 X kd_P_finish_91 rfl ?_
  refine gf_P_151 97 X kd_P_finish_94 rfl ?_
  refine mc_P_88 100 X kd_P_finish_97 (Nat.le_of_ble_eq_true rfl) (Nat.le_of_ble_eq_true rfl) (Nat.le_of_ble_eq_true rfl) rfl (fun s2 => ?_)
  refine zj_aload_n 101 0 X kd_P_finish_100 rfl rfl rfl ?_
  refine gf_P_30 104 X kd_P_finish_101 rfl ?_
  refine mc_P_154 107 X kd_P_finish_104 (Nat.le_of_ble_eq_true rfl) (Nat.le_of_ble_eq_true rfl) (Nat.le_of_ble_eq_true rfl) rfl (fun p3 => ?_)
  refine zj_if_ne 114 110 X kd_P_finish_107 rfl rfl (fun _ => ?_) (fun _ => ?_)
  · refine zj_iconst 111 1 X kd_P_finish_110 ki_1 rfl ?_
    refine zj_goto 115 X kd_P_finish_111 rfl ?_
    exact j_P_finish_115 X p3.2 l1 1
  · refine zj_iconst 115 0 X kd_P_finish_114 ki_0 rfl ?_
    exact j_P_finish_115 X p3.2 l1 0
theorem j_P_finish_63 {P : ZP} {E : ZE} {A : Nat → Prop} (X : ZX E (zcV P) A "FrameMachine$Processor" b_P_finish 4 none 5 121) (s0 : ZS) (l1 : Int32) (t0 : Int32) : ZJ E (zcV P) A 4 (zFv E (zcV P) A) 63 [(0, .ref (P.1 6)), (1, .int l1)] [.int t0] s0 (f_P_finish_63 s0 l1 t0) := by
  unfold f_P_finish_63
  refine zj_istore_n 64 [(3, .int t0), (0, .ref (P.1 6)), (1, .int l1)] X kd_P_finish_63 rfl (Nat.le_of_ble_eq_true rfl) rfl rfl ?_
  refine zj_aload_n 65 1 X kd_P_finish_64 rfl rfl rfl ?_
  refine gf_P_30 68 X kd_P_finish_65 rfl ?_
  refine zj_aload_n 69 1 X kd_P_finish_68 rfl rfl rfl ?_
  refine gf_P_120 72 X kd_P_finish_69 rfl ?_
  refine zj_iload_n 73 0 X kd_P_finish_72 rfl rfl rfl ?_
  refine zj_if_eq 83 76 X kd_P_finish_73 rfl rfl (fun _ => ?_) (fun _ => ?_)
  · refine zj_aload_n 84 1 X kd_P_finish_83 rfl rfl rfl ?_
    refine gf_P_22 87 X kd_P_finish_84 rfl ?_
    refine gf_P_85 90 X kd_P_finish_87 rfl ?_
    refine zj_loc [1, 2] (L2 := [(0, .ref (P.1 6)), (1, .int l1)]) rfl ?_
    exact j_P_finish_90 X s0 l1 ((s0 0 14)) ((s0 0 22))
  · refine zj_aload_n 77 1 X kd_P_finish_76 rfl rfl rfl ?_
    refine gf_P_123 80 X kd_P_finish_77 rfl ?_
    refine zj_goto 90 X kd_P_finish_80 rfl ?_
    refine zj_loc [1, 2] (L2 := [(0, .ref (P.1 6)), (1, .int l1)]) rfl ?_
    exact j_P_finish_90 X s0 l1 ((s0 0 21)) ((s0 0 22))
theorem j_P_finish_58 {P : ZP} {E : ZE} {A : Nat → Prop} (X : ZX E (zcV P) A "FrameMachine$Processor" b_P_finish 4 none 5 121) (s0 : ZS) (l1 : Int32) : ZJ E (zcV P) A 4 (zFv E (zcV P) A) 58 [(0, .ref (P.1 6)), (1, .int l1)] [] s0 (f_P_finish_58 s0 l1) := by
  unfold f_P_finish_58
  refine zj_iconst 59 1 X kd_P_finish_58 ki_1 rfl ?_
  refine zj_goto 63 X kd_P_finish_59 rfl ?_
  exact j_P_finish_63 X s0 l1 1
theorem j_P_finish_33 {P : ZP} {E : ZE} {A : Nat → Prop} (X : ZX E (zcV P) A "FrameMachine$Processor" b_P_finish 4 none 5 121) (s0 : ZS) (l1 : Int32) (t0 : Int32) : ZJ E (zcV P) A 4 (zFv E (zcV P) A) 33 [(0, .ref (P.1 6)), (1, .int l1)] [.int t0] s0 (f_P_finish_33 s0 l1 t0) := by
  unfold f_P_finish_33
  refine zj_istore_n 34 [(2, .int t0), (0, .ref (P.1 6)), (1, .int l1)] X kd_P_finish_33 rfl (Nat.le_of_ble_eq_true rfl) rfl rfl ?_
  refine zj_aload_n 35 1 X kd_P_finish_34 rfl rfl rfl ?_
  refine gf_P_120 38 X kd_P_finish_35 rfl ?_
  refine zj_if_eq 116 41 X kd_P_finish_38 rfl rfl (fun _ => ?_) (fun _ => ?_)
  · refine zj_loc [1, 2, 0] (L2 := [(0, .ref (P.1 6)), (1, .int l1), (2, .int t0)]) rfl ?_
    exact j_P_finish_116 X s0 l1 t0
  · refine zj_aload_n 42 1 X kd_P_finish_41 rfl rfl rfl ?_
    refine gf_P_120 45 X kd_P_finish_42 rfl ?_
    refine zj_iconst 46 4 X kd_P_finish_45 ki_4 rfl ?_
    refine zj_icmp_eq 58 49 X kd_P_finish_46 rfl rfl (fun _ => ?_) (fun _ => ?_)
    · refine zj_loc [1, 2] (L2 := [(0, .ref (P.1 6)), (1, .int l1)]) rfl ?_
      exact j_P_finish_58 X s0 l1
    · refine zj_aload_n 50 1 X kd_P_finish_49 rfl rfl rfl ?_
      refine gf_P_120 53 X kd_P_finish_50 rfl ?_
      refine zj_bipush 55 8 X kd_P_finish_53 kb_8 rfl ?_
      refine zj_icmp_ne 62 58 X kd_P_finish_55 rfl rfl (fun _ => ?_) (fun _ => ?_)
      · refine zj_loc [1, 2] (L2 := [(0, .ref (P.1 6)), (1, .int l1)]) rfl ?_
        exact j_P_finish_58 X s0 l1
      · refine zj_iconst 63 0 X kd_P_finish_62 ki_0 rfl ?_
        refine zj_loc [1, 2] (L2 := [(0, .ref (P.1 6)), (1, .int l1)]) rfl ?_
        exact j_P_finish_63 X s0 l1 0
theorem j_P_finish_21 {P : ZP} {E : ZE} {A : Nat → Prop} (X : ZX E (zcV P) A "FrameMachine$Processor" b_P_finish 4 none 5 121) (s0 : ZS) (l1 : Int32) : ZJ E (zcV P) A 4 (zFv E (zcV P) A) 21 [(0, .ref (P.1 6)), (1, .int l1)] [] s0 (f_P_finish_21 s0 l1) := by
  unfold f_P_finish_21
  refine zj_aload_n 22 0 X kd_P_finish_21 rfl rfl rfl ?_
  refine gf_P_82 25 X kd_P_finish_22 rfl ?_
  refine zj_if_ne 32 28 X kd_P_finish_25 rfl rfl (fun _ => ?_) (fun _ => ?_)
  · refine zj_iconst 29 1 X kd_P_finish_28 ki_1 rfl ?_
    refine zj_goto 33 X kd_P_finish_29 rfl ?_
    exact j_P_finish_33 X s0 l1 1
  · refine zj_iconst 33 0 X kd_P_finish_32 ki_0 rfl ?_
    exact j_P_finish_33 X s0 l1 0
theorem j_P_finish {P : ZP} {E : ZE} {A : Nat → Prop} (X : ZX E (zcV P) A "FrameMachine$Processor" b_P_finish 4 none 5 121) (s0 : ZS) (x1 : Int32) : ZJ E (zcV P) A 4 (zFv E (zcV P) A) 0 [(0, .ref (P.1 6)), (1, .int x1)] [] s0 (f_P_finish s0 x1) := by
  unfold f_P_finish
  refine zj_aload_n 1 0 X kd_P_finish_0 rfl rfl rfl ?_
  refine gf_P_18 4 X kd_P_finish_1 rfl ?_
  refine gf_P_117 7 X kd_P_finish_4 rfl ?_
  refine zj_if_eq 21 10 X kd_P_finish_7 rfl rfl (fun _ => ?_) (fun _ => ?_)
  · exact j_P_finish_21 X s0 x1
  · refine zj_aload_n 11 0 X kd_P_finish_10 rfl rfl rfl ?_
    refine zj_aload_n 12 0 X kd_P_finish_11 rfl rfl rfl ?_
    refine gf_P_18 15 X kd_P_finish_12 rfl ?_
    refine gf_P_117 18 X kd_P_finish_15 rfl ?_
    refine pf_P_120 21 X kd_P_finish_18 rfl ?_
    refine zj_nms (fun s4 => ?_)
    exact j_P_finish_21 X s4 x1
theorem c_P_finish {l : Launch} {P : ZP} (hV : ZVok (zcV P)) (s0 : ZS) (x1 : Int32) {z : ZS} (h : f_P_finish s0 x1 = some z) : zMv l y_P_finish b_P_finish 4 none 5 121 (zcV P) s0 [.ref (P.1 6), .int x1] z :=
  zMv_of (by decide +kernel) rfl rfl (Nat.le_of_ble_eq_true rfl) hV (fun _ X => j_P_finish X s0 x1) h
theorem kc_P_113 : zCV "FrameMachine$Processor" 113 y_P_finish b_P_finish 4 none 1 := ⟨⟨kw_739, kw_741, ksel_28, kw_7, kw_742⟩, by decide +kernel, by decide +kernel, by decide +kernel⟩
theorem mc_P_113 {ρ : Type} {E : ZE} {P : ZP} {A : Nat → Prop} {cc : ByteArray} {nL : Nat} {ret : Option FieldType} {fr lo : Nat} {F : ρ → State → Prop} {pc : Nat} {L : List (Nat × Value)} {rest : List Value} {σ : ZS} {x1 : Int32} {K : ZS → Option ρ} (q : Nat) (X : ZX E (zcV P) A "FrameMachine$Processor" cc nL ret fr lo) (d : decode cc pc = .ok (.invokevirtual 113, 3)) (hfr : 5 + 1 ≤ fr) (hlo : 8 + (4 + 11) + 121 ≤ lo) (hr : (rest.map fun v => v.category).sum ≤ 8) (hq : pc + 3 = q) (kk : ∀ p : ZS, ZJ E (zcV P) A nL F q L (rest) p (K p)) : ZJ E (zcV P) A nL F pc L (.int x1 :: .ref (P.1 6) :: rest) σ ((f_P_finish σ x1).bind K) :=
  zj_cVv q 6 6 (As := [.int x1]) (rest := rest) X kc_P_113 hfr hlo (fun p h => c_P_finish (zx_v X) σ x1 h) rfl rfl rfl hr d hq kk
-- FrameMachine.maskOf(I)I
theorem kd_F_maskOf_0 : decode b_F_maskOf 0 = .ok (.iload_n 0, 1) := by decide +kernel
theorem kd_F_maskOf_1 : decode b_F_maskOf 1 = .ok (.ifCond .ne 9, 3) := by decide +kernel
theorem kd_F_maskOf_4 : decode b_F_maskOf 4 = .ok (.sipush 255, 3) := by decide +kernel
theorem kd_F_maskOf_7 : decode b_F_maskOf 7 = .ok (.goto 14, 3) := by decide +kernel
theorem kd_F_maskOf_10 : decode b_F_maskOf 10 = .ok (.iload_n 0, 1) := by decide +kernel
theorem kd_F_maskOf_11 : decode b_F_maskOf 11 = .ok (.iconst 1, 1) := by decide +kernel
theorem kd_F_maskOf_12 : decode b_F_maskOf 12 = .ok (.if_icmp .ne 8, 3) := by decide +kernel
theorem kd_F_maskOf_15 : decode b_F_maskOf 15 = .ok (.ldc 59, 2) := by decide +kernel
theorem kd_F_maskOf_17 : decode b_F_maskOf 17 = .ok (.goto 4, 3) := by decide +kernel
theorem kd_F_maskOf_20 : decode b_F_maskOf 20 = .ok (.iconst (-1), 1) := by decide +kernel
theorem kd_F_maskOf_21 : decode b_F_maskOf 21 = .ok (.ireturn, 1) := by decide +kernel
noncomputable def f_F_maskOf (s0 : ZS) (x1 : Int32) : Option (Int32 × ZS) :=
  if x1 = 0 then
    some (255, s0)
  else
    if x1 = 1 then
      some (65535, s0)
    else
      some ((-1), s0)
theorem j_F_maskOf {P : ZP} {E : ZE} {A : Nat → Prop} (X : ZX E (zcV P) A "FrameMachine" b_F_maskOf 1 (some .int) 0 0) (s0 : ZS) (x1 : Int32) : ZJ E (zcV P) A 1 (zFi E (zcV P) A) 0 [(0, .int x1)] [] s0 (f_F_maskOf s0 x1) := by
  unfold f_F_maskOf
  refine zj_iload_n 1 0 X kd_F_maskOf_0 rfl rfl rfl ?_
  refine zj_if_ne 10 4 X kd_F_maskOf_1 rfl rfl (fun _ => ?_) (fun _ => ?_)
  · refine zj_sipush 7 255 X kd_F_maskOf_4 ks_255 rfl ?_
    refine zj_goto 21 X kd_F_maskOf_7 rfl ?_
    exact zj_iret X kd_F_maskOf_21
  · refine zj_iload_n 11 0 X kd_F_maskOf_10 rfl rfl rfl ?_
    refine zj_iconst 12 1 X kd_F_maskOf_11 ki_1 rfl ?_
    refine zj_icmp_ne 20 15 X kd_F_maskOf_12 rfl rfl (fun _ => ?_) (fun _ => ?_)
    · refine zj_ldc 17 65535 X kd_F_maskOf_15 kw_364 rfl ?_
      refine zj_goto 21 X kd_F_maskOf_17 rfl ?_
      exact zj_iret X kd_F_maskOf_21
    · refine zj_iconst 21 ((-1)) X kd_F_maskOf_20 ki_m1 rfl ?_
      exact zj_iret X kd_F_maskOf_21
theorem c_F_maskOf {l : Launch} {P : ZP} (hV : ZVok (zcV P)) (s0 : ZS) (x1 : Int32) {z : Int32 × ZS} (h : f_F_maskOf s0 x1 = some z) : zMi l y_F_maskOf b_F_maskOf 1 (some .int) 0 0 (zcV P) s0 [.int x1] z :=
  zMi_of (by decide +kernel) rfl rfl (Nat.le_of_ble_eq_true rfl) hV (fun _ X => j_F_maskOf X s0 x1) h
theorem kc_A_29 : zCN "FrameMachine$Arithmetic" 29 y_F_maskOf "FrameMachine" b_F_maskOf 1 (some .int) 1 := ⟨⟨kw_632, kw_1, kw_597⟩, by decide +kernel, by decide +kernel, by decide +kernel⟩
theorem mc_A_29 {ρ : Type} {E : ZE} {P : ZP} {A : Nat → Prop} {cc : ByteArray} {nL : Nat} {ret : Option FieldType} {fr lo : Nat} {F : ρ → State → Prop} {pc : Nat} {L : List (Nat × Value)} {rest : List Value} {σ : ZS} {x1 : Int32} {K : Int32 × ZS → Option ρ} (q : Nat) (X : ZX E (zcV P) A "FrameMachine$Arithmetic" cc nL ret fr lo) (d : decode cc pc = .ok (.invokestatic 29, 3)) (hfr : 0 + 1 ≤ fr) (hlo : 8 + (1 + 11) + 0 ≤ lo) (hr : (rest.map fun v => v.category).sum ≤ 8) (hq : pc + 3 = q) (kk : ∀ p : Int32 × ZS, ZJ E (zcV P) A nL F q L (.int p.1 :: rest) p.2 (K p)) : ZJ E (zcV P) A nL F pc L (.int x1 :: rest) σ ((f_F_maskOf σ x1).bind K) :=
  zj_cSNi q (As := [.int x1]) (rest := rest) X kc_A_29 kw_596 hfr hlo (fun p h => c_F_maskOf (zx_v X) σ x1 h) rfl hr d hq kk
theorem kc_O_77 : zCN "FrameMachine$Operand" 77 y_F_maskOf "FrameMachine" b_F_maskOf 1 (some .int) 1 := ⟨⟨kw_595, kw_1, kw_597⟩, by decide +kernel, by decide +kernel, by decide +kernel⟩
theorem mc_O_77 {ρ : Type} {E : ZE} {P : ZP} {A : Nat → Prop} {cc : ByteArray} {nL : Nat} {ret : Option FieldType} {fr lo : Nat} {F : ρ → State → Prop} {pc : Nat} {L : List (Nat × Value)} {rest : List Value} {σ : ZS} {x1 : Int32} {K : Int32 × ZS → Option ρ} (q : Nat) (X : ZX E (zcV P) A "FrameMachine$Operand" cc nL ret fr lo) (d : decode cc pc = .ok (.invokestatic 77, 3)) (hfr : 0 + 1 ≤ fr) (hlo : 8 + (1 + 11) + 0 ≤ lo) (hr : (rest.map fun v => v.category).sum ≤ 8) (hq : pc + 3 = q) (kk : ∀ p : Int32 × ZS, ZJ E (zcV P) A nL F q L (.int p.1 :: rest) p.2 (K p)) : ZJ E (zcV P) A nL F pc L (.int x1 :: rest) σ ((f_F_maskOf σ x1).bind K) :=
  zj_cSNi q (As := [.int x1]) (rest := rest) X kc_O_77 kw_596 hfr hlo (fun p h => c_F_maskOf (zx_v X) σ x1 h) rfl hr d hq kk
theorem kc_G_29 : zCN "FrameMachine$Registers" 29 y_F_maskOf "FrameMachine" b_F_maskOf 1 (some .int) 1 := ⟨⟨kw_614, kw_1, kw_597⟩, by decide +kernel, by decide +kernel, by decide +kernel⟩
theorem mc_G_29 {ρ : Type} {E : ZE} {P : ZP} {A : Nat → Prop} {cc : ByteArray} {nL : Nat} {ret : Option FieldType} {fr lo : Nat} {F : ρ → State → Prop} {pc : Nat} {L : List (Nat × Value)} {rest : List Value} {σ : ZS} {x1 : Int32} {K : Int32 × ZS → Option ρ} (q : Nat) (X : ZX E (zcV P) A "FrameMachine$Registers" cc nL ret fr lo) (d : decode cc pc = .ok (.invokestatic 29, 3)) (hfr : 0 + 1 ≤ fr) (hlo : 8 + (1 + 11) + 0 ≤ lo) (hr : (rest.map fun v => v.category).sum ≤ 8) (hq : pc + 3 = q) (kk : ∀ p : Int32 × ZS, ZJ E (zcV P) A nL F q L (.int p.1 :: rest) p.2 (K p)) : ZJ E (zcV P) A nL F pc L (.int x1 :: rest) σ ((f_F_maskOf σ x1).bind K) :=
  zj_cSNi q (As := [.int x1]) (rest := rest) X kc_G_29 kw_596 hfr hlo (fun p h => c_F_maskOf (zx_v X) σ x1 h) rfl hr d hq kk
-- FrameMachine$Registers.putData(III)V
theorem kd_G_putData_0 : decode b_G_putData 0 = .ok (.iload_n 2, 1) := by decide +kernel
theorem kd_G_putData_1 : decode b_G_putData 1 = .ok (.invokestatic 29, 3) := by decide +kernel
theorem kd_G_putData_4 : decode b_G_putData 4 = .ok (.istore 4, 2) := by decide +kernel
theorem kd_G_putData_6 : decode b_G_putData 6 = .ok (.aload_n 0, 1) := by decide +kernel
theorem kd_G_putData_7 : decode b_G_putData 7 = .ok (.getfield 9, 3) := by decide +kernel
theorem kd_G_putData_10 : decode b_G_putData 10 = .ok (.iload_n 1, 1) := by decide +kernel
theorem kd_G_putData_11 : decode b_G_putData 11 = .ok (.bipush 7, 2) := by decide +kernel
theorem kd_G_putData_13 : decode b_G_putData 13 = .ok (.iand, 1) := by decide +kernel
theorem kd_G_putData_14 : decode b_G_putData 14 = .ok (.aload_n 0, 1) := by decide +kernel
theorem kd_G_putData_15 : decode b_G_putData 15 = .ok (.getfield 9, 3) := by decide +kernel
theorem kd_G_putData_18 : decode b_G_putData 18 = .ok (.iload_n 1, 1) := by decide +kernel
theorem kd_G_putData_19 : decode b_G_putData 19 = .ok (.bipush 7, 2) := by decide +kernel
theorem kd_G_putData_21 : decode b_G_putData 21 = .ok (.iand, 1) := by decide +kernel
theorem kd_G_putData_22 : decode b_G_putData 22 = .ok (.iaload, 1) := by decide +kernel
theorem kd_G_putData_23 : decode b_G_putData 23 = .ok (.iload 4, 2) := by decide +kernel
theorem kd_G_putData_25 : decode b_G_putData 25 = .ok (.iconst (-1), 1) := by decide +kernel
theorem kd_G_putData_26 : decode b_G_putData 26 = .ok (.ixor, 1) := by decide +kernel
theorem kd_G_putData_27 : decode b_G_putData 27 = .ok (.iand, 1) := by decide +kernel
theorem kd_G_putData_28 : decode b_G_putData 28 = .ok (.iload_n 3, 1) := by decide +kernel
theorem kd_G_putData_29 : decode b_G_putData 29 = .ok (.iload 4, 2) := by decide +kernel
theorem kd_G_putData_31 : decode b_G_putData 31 = .ok (.iand, 1) := by decide +kernel
theorem kd_G_putData_32 : decode b_G_putData 32 = .ok (.ior, 1) := by decide +kernel
theorem kd_G_putData_33 : decode b_G_putData 33 = .ok (.iastore, 1) := by decide +kernel
theorem kd_G_putData_34 : decode b_G_putData 34 = .ok (.return_, 1) := by decide +kernel
noncomputable def f_G_putData (s0 : ZS) (x1 : Int32) (x2 : Int32) (x3 : Int32) : Option (ZS) :=
  (f_F_maskOf s0 x2).bind fun p1 =>
  zs_nm (x1 &&& 7) fun v2 =>
  if v2 < 0 ∨ 8 ≤ v2.toNatClampNeg then none else
  if (x1 &&& 7) < 0 ∨ 8 ≤ (x1 &&& 7).toNatClampNeg then none else
  zs_nm (zs_up p1.2 2 (x1 &&& 7).toNatClampNeg (((p1.2 2 v2.toNatClampNeg) &&& (p1.1 ^^^ ((-1)))) ||| (x3 &&& p1.1))) fun s3 =>
  some s3
theorem j_G_putData {P : ZP} {E : ZE} {A : Nat → Prop} (X : ZX E (zcV P) A "FrameMachine$Registers" b_G_putData 5 none 1 20) (s0 : ZS) (x1 : Int32) (x2 : Int32) (x3 : Int32) : ZJ E (zcV P) A 5 (zFv E (zcV P) A) 0 [(0, .ref (P.1 3)), (1, .int x1), (2, .int x2), (3, .int x3)] [] s0 (f_G_putData s0 x1 x2 x3) := by
  unfold f_G_putData
  refine zj_iload_n 1 2 X kd_G_putData_0 rfl rfl rfl ?_
  refine mc_G_29 4 X kd_G_putData_1 (Nat.le_of_ble_eq_true rfl) (Nat.le_of_ble_eq_true rfl) (Nat.le_of_ble_eq_true rfl) rfl (fun p1 => ?_)
  refine zj_istore 6 [(4, .int p1.1), (0, .ref (P.1 3)), (1, .int x1), (2, .int x2), (3, .int x3)] X kd_G_putData_4 (Nat.le_of_ble_eq_true rfl) rfl rfl ?_
  refine zj_aload_n 7 1 X kd_G_putData_6 rfl rfl rfl ?_
  refine gf_G_9 10 X kd_G_putData_7 rfl ?_
  refine zj_iload_n 11 2 X kd_G_putData_10 rfl rfl rfl ?_
  refine zj_bipush 13 7 X kd_G_putData_11 kb_7 rfl ?_
  refine zj_iand 14 X kd_G_putData_13 rfl ?_
  refine zj_aload_n 15 1 X kd_G_putData_14 rfl rfl rfl ?_
  refine gf_G_9 18 X kd_G_putData_15 rfl ?_
  refine zj_iload_n 19 2 X kd_G_putData_18 rfl rfl rfl ?_
  refine zj_bipush 21 7 X kd_G_putData_19 kb_7 rfl ?_
  refine zj_iand 22 X kd_G_putData_21 rfl ?_
  refine zj_nmi (fun v2 => ?_)
  refine zj_ng (fun hg => ?_)
  refine al_C_2 23 X kd_G_putData_22 hg rfl ?_
  refine zj_iload 25 0 X kd_G_putData_23 rfl rfl ?_
  refine zj_iconst 26 ((-1)) X kd_G_putData_25 ki_m1 rfl ?_
  refine zj_ixor 27 X kd_G_putData_26 rfl ?_
  refine zj_iand 28 X kd_G_putData_27 rfl ?_
  refine zj_iload_n 29 4 X kd_G_putData_28 rfl rfl rfl ?_
  refine zj_iload 31 0 X kd_G_putData_29 rfl rfl ?_
  refine zj_iand 32 X kd_G_putData_31 rfl ?_
  refine zj_ior 33 X kd_G_putData_32 rfl ?_
  refine zj_ng (fun hg => ?_)
  refine as_C_2 34 X kd_G_putData_33 hg rfl ?_
  refine zj_nms (fun s3 => ?_)
  exact zj_vret X kd_G_putData_34
theorem c_G_putData {l : Launch} {P : ZP} (hV : ZVok (zcV P)) (s0 : ZS) (x1 : Int32) (x2 : Int32) (x3 : Int32) {z : ZS} (h : f_G_putData s0 x1 x2 x3 = some z) : zMv l y_G_putData b_G_putData 5 none 1 20 (zcV P) s0 [.ref (P.1 3), .int x1, .int x2, .int x3] z :=
  zMv_of (by decide +kernel) rfl rfl (Nat.le_of_ble_eq_true rfl) hV (fun _ X => j_G_putData X s0 x1 x2 x3) h
theorem kc_A_52 : zCV "FrameMachine$Arithmetic" 52 y_G_putData b_G_putData 5 none 3 := ⟨⟨kw_692, kw_611, kw_612, kw_4, kw_613⟩, by decide +kernel, by decide +kernel, by decide +kernel⟩
theorem mc_A_52 {ρ : Type} {E : ZE} {P : ZP} {A : Nat → Prop} {cc : ByteArray} {nL : Nat} {ret : Option FieldType} {fr lo : Nat} {F : ρ → State → Prop} {pc : Nat} {L : List (Nat × Value)} {rest : List Value} {σ : ZS} {x1 : Int32} {x2 : Int32} {x3 : Int32} {K : ZS → Option ρ} (q : Nat) (X : ZX E (zcV P) A "FrameMachine$Arithmetic" cc nL ret fr lo) (d : decode cc pc = .ok (.invokevirtual 52, 3)) (hfr : 1 + 1 ≤ fr) (hlo : 8 + (5 + 11) + 20 ≤ lo) (hr : (rest.map fun v => v.category).sum ≤ 8) (hq : pc + 3 = q) (kk : ∀ p : ZS, ZJ E (zcV P) A nL F q L (rest) p (K p)) : ZJ E (zcV P) A nL F pc L (.int x3 :: .int x2 :: .int x1 :: .ref (P.1 3) :: rest) σ ((f_G_putData σ x1 x2 x3).bind K) :=
  zj_cVv q 3 3 (As := [.int x1, .int x2, .int x3]) (rest := rest) X kc_A_52 hfr hlo (fun p h => c_G_putData (zx_v X) σ x1 x2 x3 h) rfl rfl rfl hr d hq kk
theorem kc_O_81 : zCV "FrameMachine$Operand" 81 y_G_putData b_G_putData 5 none 3 := ⟨⟨kw_641, kw_611, kw_612, kw_4, kw_613⟩, by decide +kernel, by decide +kernel, by decide +kernel⟩
theorem mc_O_81 {ρ : Type} {E : ZE} {P : ZP} {A : Nat → Prop} {cc : ByteArray} {nL : Nat} {ret : Option FieldType} {fr lo : Nat} {F : ρ → State → Prop} {pc : Nat} {L : List (Nat × Value)} {rest : List Value} {σ : ZS} {x1 : Int32} {x2 : Int32} {x3 : Int32} {K : ZS → Option ρ} (q : Nat) (X : ZX E (zcV P) A "FrameMachine$Operand" cc nL ret fr lo) (d : decode cc pc = .ok (.invokevirtual 81, 3)) (hfr : 1 + 1 ≤ fr) (hlo : 8 + (5 + 11) + 20 ≤ lo) (hr : (rest.map fun v => v.category).sum ≤ 8) (hq : pc + 3 = q) (kk : ∀ p : ZS, ZJ E (zcV P) A nL F q L (rest) p (K p)) : ZJ E (zcV P) A nL F pc L (.int x3 :: .int x2 :: .int x1 :: .ref (P.1 3) :: rest) σ ((f_G_putData σ x1 x2 x3).bind K) :=
  zj_cVv q 3 3 (As := [.int x1, .int x2, .int x3]) (rest := rest) X kc_O_81 hfr hlo (fun p h => c_G_putData (zx_v X) σ x1 x2 x3 h) rfl rfl rfl hr d hq kk
theorem kc_P_249 : zCV "FrameMachine$Processor" 249 y_G_putData b_G_putData 5 none 3 := ⟨⟨kw_610, kw_611, kw_612, kw_4, kw_613⟩, by decide +kernel, by decide +kernel, by decide +kernel⟩
theorem mc_P_249 {ρ : Type} {E : ZE} {P : ZP} {A : Nat → Prop} {cc : ByteArray} {nL : Nat} {ret : Option FieldType} {fr lo : Nat} {F : ρ → State → Prop} {pc : Nat} {L : List (Nat × Value)} {rest : List Value} {σ : ZS} {x1 : Int32} {x2 : Int32} {x3 : Int32} {K : ZS → Option ρ} (q : Nat) (X : ZX E (zcV P) A "FrameMachine$Processor" cc nL ret fr lo) (d : decode cc pc = .ok (.invokevirtual 249, 3)) (hfr : 1 + 1 ≤ fr) (hlo : 8 + (5 + 11) + 20 ≤ lo) (hr : (rest.map fun v => v.category).sum ≤ 8) (hq : pc + 3 = q) (kk : ∀ p : ZS, ZJ E (zcV P) A nL F q L (rest) p (K p)) : ZJ E (zcV P) A nL F pc L (.int x3 :: .int x2 :: .int x1 :: .ref (P.1 3) :: rest) σ ((f_G_putData σ x1 x2 x3).bind K) :=
  zj_cVv q 3 3 (As := [.int x1, .int x2, .int x3]) (rest := rest) X kc_P_249 hfr hlo (fun p h => c_G_putData (zx_v X) σ x1 x2 x3 h) rfl rfl rfl hr d hq kk
-- FrameMachine$Processor.put(I)V
theorem kd_P_put_0 : decode b_P_put 0 = .ok (.aload_n 0, 1) := by decide +kernel
theorem kd_P_put_1 : decode b_P_put 1 = .ok (.getfield 22, 3) := by decide +kernel
theorem kd_P_put_4 : decode b_P_put 4 = .ok (.aload_n 0, 1) := by decide +kernel
theorem kd_P_put_5 : decode b_P_put 5 = .ok (.getfield 12, 3) := by decide +kernel
theorem kd_P_put_8 : decode b_P_put 8 = .ok (.getfield 157, 3) := by decide +kernel
theorem kd_P_put_11 : decode b_P_put 11 = .ok (.aload_n 0, 1) := by decide +kernel
theorem kd_P_put_12 : decode b_P_put 12 = .ok (.getfield 12, 3) := by decide +kernel
theorem kd_P_put_15 : decode b_P_put 15 = .ok (.getfield 160, 3) := by decide +kernel
theorem kd_P_put_18 : decode b_P_put 18 = .ok (.iload_n 1, 1) := by decide +kernel
theorem kd_P_put_19 : decode b_P_put 19 = .ok (.invokevirtual 249, 3) := by decide +kernel
theorem kd_P_put_22 : decode b_P_put 22 = .ok (.return_, 1) := by decide +kernel
noncomputable def f_P_put (s0 : ZS) (x1 : Int32) : Option (ZS) :=
  (f_G_putData s0 (s0 0 26) (s0 0 25) x1).bind fun s1 =>
  some s1
theorem j_P_put {P : ZP} {E : ZE} {A : Nat → Prop} (X : ZX E (zcV P) A "FrameMachine$Processor" b_P_put 2 none 2 44) (s0 : ZS) (x1 : Int32) : ZJ E (zcV P) A 2 (zFv E (zcV P) A) 0 [(0, .ref (P.1 6)), (1, .int x1)] [] s0 (f_P_put s0 x1) := by
  unfold f_P_put
  refine zj_aload_n 1 0 X kd_P_put_0 rfl rfl rfl ?_
  refine gf_P_22 4 X kd_P_put_1 rfl ?_
  refine zj_aload_n 5 0 X kd_P_put_4 rfl rfl rfl ?_
  refine gf_P_12 8 X kd_P_put_5 rfl ?_
  refine gf_P_157 11 X kd_P_put_8 rfl ?_
  refine zj_aload_n 12 0 X kd_P_put_11 rfl rfl rfl ?_
  refine gf_P_12 15 X kd_P_put_12 rfl ?_
  refine gf_P_160 18 X kd_P_put_15 rfl ?_
  refine zj_iload_n 19 1 X kd_P_put_18 rfl rfl rfl ?_
  refine mc_P_249 22 X kd_P_put_19 (Nat.le_of_ble_eq_true rfl) (Nat.le_of_ble_eq_true rfl) (Nat.le_of_ble_eq_true rfl) rfl (fun s1 => ?_)
  exact zj_vret X kd_P_put_22
theorem c_P_put {l : Launch} {P : ZP} (hV : ZVok (zcV P)) (s0 : ZS) (x1 : Int32) {z : ZS} (h : f_P_put s0 x1 = some z) : zMv l y_P_put b_P_put 2 none 2 44 (zcV P) s0 [.ref (P.1 6), .int x1] z :=
  zMv_of (by decide +kernel) rfl rfl (Nat.le_of_ble_eq_true rfl) hV (fun _ X => j_P_put X s0 x1) h
theorem kc_P_190 : zCV "FrameMachine$Processor" 190 y_P_put b_P_put 2 none 1 := ⟨⟨kw_606, kw_608, ksel_13, kw_7, kw_609⟩, by decide +kernel, by decide +kernel, by decide +kernel⟩
theorem mc_P_190 {ρ : Type} {E : ZE} {P : ZP} {A : Nat → Prop} {cc : ByteArray} {nL : Nat} {ret : Option FieldType} {fr lo : Nat} {F : ρ → State → Prop} {pc : Nat} {L : List (Nat × Value)} {rest : List Value} {σ : ZS} {x1 : Int32} {K : ZS → Option ρ} (q : Nat) (X : ZX E (zcV P) A "FrameMachine$Processor" cc nL ret fr lo) (d : decode cc pc = .ok (.invokevirtual 190, 3)) (hfr : 2 + 1 ≤ fr) (hlo : 8 + (2 + 11) + 44 ≤ lo) (hr : (rest.map fun v => v.category).sum ≤ 8) (hq : pc + 3 = q) (kk : ∀ p : ZS, ZJ E (zcV P) A nL F q L (rest) p (K p)) : ZJ E (zcV P) A nL F pc L (.int x1 :: .ref (P.1 6) :: rest) σ ((f_P_put σ x1).bind K) :=
  zj_cVv q 6 6 (As := [.int x1]) (rest := rest) X kc_P_190 hfr hlo (fun p h => c_P_put (zx_v X) σ x1 h) rfl rfl rfl hr d hq kk
-- FrameMachine.topBitOf(I)I
theorem kd_F_topBitOf_0 : decode b_F_topBitOf 0 = .ok (.iload_n 0, 1) := by decide +kernel
theorem kd_F_topBitOf_1 : decode b_F_topBitOf 1 = .ok (.ifCond .ne 9, 3) := by decide +kernel
theorem kd_F_topBitOf_4 : decode b_F_topBitOf 4 = .ok (.sipush 128, 3) := by decide +kernel
theorem kd_F_topBitOf_7 : decode b_F_topBitOf 7 = .ok (.goto 15, 3) := by decide +kernel
theorem kd_F_topBitOf_10 : decode b_F_topBitOf 10 = .ok (.iload_n 0, 1) := by decide +kernel
theorem kd_F_topBitOf_11 : decode b_F_topBitOf 11 = .ok (.iconst 1, 1) := by decide +kernel
theorem kd_F_topBitOf_12 : decode b_F_topBitOf 12 = .ok (.if_icmp .ne 8, 3) := by decide +kernel
theorem kd_F_topBitOf_15 : decode b_F_topBitOf 15 = .ok (.ldc 140, 2) := by decide +kernel
theorem kd_F_topBitOf_17 : decode b_F_topBitOf 17 = .ok (.goto 5, 3) := by decide +kernel
theorem kd_F_topBitOf_20 : decode b_F_topBitOf 20 = .ok (.ldc 141, 2) := by decide +kernel
theorem kd_F_topBitOf_22 : decode b_F_topBitOf 22 = .ok (.ireturn, 1) := by decide +kernel
noncomputable def f_F_topBitOf (s0 : ZS) (x1 : Int32) : Option (Int32 × ZS) :=
  if x1 = 0 then
    some (128, s0)
  else
    if x1 = 1 then
      some (32768, s0)
    else
      some ((-2147483648), s0)
theorem j_F_topBitOf {P : ZP} {E : ZE} {A : Nat → Prop} (X : ZX E (zcV P) A "FrameMachine" b_F_topBitOf 1 (some .int) 0 0) (s0 : ZS) (x1 : Int32) : ZJ E (zcV P) A 1 (zFi E (zcV P) A) 0 [(0, .int x1)] [] s0 (f_F_topBitOf s0 x1) := by
  unfold f_F_topBitOf
  refine zj_iload_n 1 0 X kd_F_topBitOf_0 rfl rfl rfl ?_
  refine zj_if_ne 10 4 X kd_F_topBitOf_1 rfl rfl (fun _ => ?_) (fun _ => ?_)
  · refine zj_sipush 7 128 X kd_F_topBitOf_4 ks_128 rfl ?_
    refine zj_goto 22 X kd_F_topBitOf_7 rfl ?_
    exact zj_iret X kd_F_topBitOf_22
  · refine zj_iload_n 11 0 X kd_F_topBitOf_10 rfl rfl rfl ?_
    refine zj_iconst 12 1 X kd_F_topBitOf_11 ki_1 rfl ?_
    refine zj_icmp_ne 20 15 X kd_F_topBitOf_12 rfl rfl (fun _ => ?_) (fun _ => ?_)
    · refine zj_ldc 17 32768 X kd_F_topBitOf_15 kw_626 rfl ?_
      refine zj_goto 22 X kd_F_topBitOf_17 rfl ?_
      exact zj_iret X kd_F_topBitOf_22
    · refine zj_ldc 22 ((-2147483648)) X kd_F_topBitOf_20 kw_627 rfl ?_
      exact zj_iret X kd_F_topBitOf_22
theorem c_F_topBitOf {l : Launch} {P : ZP} (hV : ZVok (zcV P)) (s0 : ZS) (x1 : Int32) {z : Int32 × ZS} (h : f_F_topBitOf s0 x1 = some z) : zMi l y_F_topBitOf b_F_topBitOf 1 (some .int) 0 0 (zcV P) s0 [.int x1] z :=
  zMi_of (by decide +kernel) rfl rfl (Nat.le_of_ble_eq_true rfl) hV (fun _ X => j_F_topBitOf X s0 x1) h
theorem kc_A_25 : zCN "FrameMachine$Arithmetic" 25 y_F_topBitOf "FrameMachine" b_F_topBitOf 1 (some .int) 1 := ⟨⟨kw_623, kw_1, kw_625⟩, by decide +kernel, by decide +kernel, by decide +kernel⟩
theorem mc_A_25 {ρ : Type} {E : ZE} {P : ZP} {A : Nat → Prop} {cc : ByteArray} {nL : Nat} {ret : Option FieldType} {fr lo : Nat} {F : ρ → State → Prop} {pc : Nat} {L : List (Nat × Value)} {rest : List Value} {σ : ZS} {x1 : Int32} {K : Int32 × ZS → Option ρ} (q : Nat) (X : ZX E (zcV P) A "FrameMachine$Arithmetic" cc nL ret fr lo) (d : decode cc pc = .ok (.invokestatic 25, 3)) (hfr : 0 + 1 ≤ fr) (hlo : 8 + (1 + 11) + 0 ≤ lo) (hr : (rest.map fun v => v.category).sum ≤ 8) (hq : pc + 3 = q) (kk : ∀ p : Int32 × ZS, ZJ E (zcV P) A nL F q L (.int p.1 :: rest) p.2 (K p)) : ZJ E (zcV P) A nL F pc L (.int x1 :: rest) σ ((f_F_topBitOf σ x1).bind K) :=
  zj_cSNi q (As := [.int x1]) (rest := rest) X kc_A_25 kw_624 hfr hlo (fun p h => c_F_topBitOf (zx_v X) σ x1 h) rfl hr d hq kk
-- FrameMachine$Registers.mark(IZ)V
theorem kd_G_mark_0 : decode b_G_mark 0 = .ok (.aload_n 0, 1) := by decide +kernel
theorem kd_G_mark_1 : decode b_G_mark 1 = .ok (.iload_n 2, 1) := by decide +kernel
theorem kd_G_mark_2 : decode b_G_mark 2 = .ok (.ifCond .eq 12, 3) := by decide +kernel
theorem kd_G_mark_5 : decode b_G_mark 5 = .ok (.aload_n 0, 1) := by decide +kernel
theorem kd_G_mark_6 : decode b_G_mark 6 = .ok (.getfield 18, 3) := by decide +kernel
theorem kd_G_mark_9 : decode b_G_mark 9 = .ok (.iload_n 1, 1) := by decide +kernel
theorem kd_G_mark_10 : decode b_G_mark 10 = .ok (.ior, 1) := by decide +kernel
theorem kd_G_mark_11 : decode b_G_mark 11 = .ok (.goto 11, 3) := by decide +kernel
theorem kd_G_mark_14 : decode b_G_mark 14 = .ok (.aload_n 0, 1) := by decide +kernel
theorem kd_G_mark_15 : decode b_G_mark 15 = .ok (.getfield 18, 3) := by decide +kernel
theorem kd_G_mark_18 : decode b_G_mark 18 = .ok (.iload_n 1, 1) := by decide +kernel
theorem kd_G_mark_19 : decode b_G_mark 19 = .ok (.iconst (-1), 1) := by decide +kernel
theorem kd_G_mark_20 : decode b_G_mark 20 = .ok (.ixor, 1) := by decide +kernel
theorem kd_G_mark_21 : decode b_G_mark 21 = .ok (.iand, 1) := by decide +kernel
theorem kd_G_mark_22 : decode b_G_mark 22 = .ok (.putfield 18, 3) := by decide +kernel
theorem kd_G_mark_25 : decode b_G_mark 25 = .ok (.return_, 1) := by decide +kernel
noncomputable def f_G_mark_22 (s0 : ZS) (t0 : Int32) : Option (ZS) :=
  zs_nm (zs_up s0 0 15 t0) fun s1 =>
  some s1
noncomputable def f_G_mark (s0 : ZS) (x1 : Int32) (x2 : Int32) : Option (ZS) :=
  if x2 = 0 then
    f_G_mark_22 s0 (((s0 0 15) &&& (x1 ^^^ ((-1)))))
  else
    f_G_mark_22 s0 (((s0 0 15) ||| x1))
theorem j_G_mark_22 {P : ZP} {E : ZE} {A : Nat → Prop} (X : ZX E (zcV P) A "FrameMachine$Registers" b_G_mark 3 none 0 0) (s0 : ZS) (t0 : Int32) : ZJ E (zcV P) A 3 (zFv E (zcV P) A) 22 [] [.int t0, .ref (P.1 3)] s0 (f_G_mark_22 s0 t0) := by
  unfold f_G_mark_22
  refine pf_G_18 25 X kd_G_mark_22 rfl ?_
  refine zj_nms (fun s1 => ?_)
  exact zj_vret X kd_G_mark_25
theorem j_G_mark {P : ZP} {E : ZE} {A : Nat → Prop} (X : ZX E (zcV P) A "FrameMachine$Registers" b_G_mark 3 none 0 0) (s0 : ZS) (x1 : Int32) (x2 : Int32) : ZJ E (zcV P) A 3 (zFv E (zcV P) A) 0 [(0, .ref (P.1 3)), (1, .int x1), (2, .int x2)] [] s0 (f_G_mark s0 x1 x2) := by
  unfold f_G_mark
  refine zj_aload_n 1 0 X kd_G_mark_0 rfl rfl rfl ?_
  refine zj_iload_n 2 2 X kd_G_mark_1 rfl rfl rfl ?_
  refine zj_if_eq 14 5 X kd_G_mark_2 rfl rfl (fun _ => ?_) (fun _ => ?_)
  · refine zj_aload_n 15 0 X kd_G_mark_14 rfl rfl rfl ?_
    refine gf_G_18 18 X kd_G_mark_15 rfl ?_
    refine zj_iload_n 19 1 X kd_G_mark_18 rfl rfl rfl ?_
    refine zj_iconst 20 ((-1)) X kd_G_mark_19 ki_m1 rfl ?_
    refine zj_ixor 21 X kd_G_mark_20 rfl ?_
    refine zj_iand 22 X kd_G_mark_21 rfl ?_
    refine zj_loc [] (L2 := []) rfl ?_
    exact j_G_mark_22 X s0 (((s0 0 15) &&& (x1 ^^^ ((-1)))))
  · refine zj_aload_n 6 0 X kd_G_mark_5 rfl rfl rfl ?_
    refine gf_G_18 9 X kd_G_mark_6 rfl ?_
    refine zj_iload_n 10 1 X kd_G_mark_9 rfl rfl rfl ?_
    refine zj_ior 11 X kd_G_mark_10 rfl ?_
    refine zj_goto 22 X kd_G_mark_11 rfl ?_
    refine zj_loc [] (L2 := []) rfl ?_
    exact j_G_mark_22 X s0 (((s0 0 15) ||| x1))
theorem c_G_mark {l : Launch} {P : ZP} (hV : ZVok (zcV P)) (s0 : ZS) (x1 : Int32) (x2 : Int32) {z : ZS} (h : f_G_mark s0 x1 x2 = some z) : zMv l y_G_mark b_G_mark 3 none 0 0 (zcV P) s0 [.ref (P.1 3), .int x1, .int x2] z :=
  zMv_of (by decide +kernel) rfl rfl (Nat.le_of_ble_eq_true rfl) hV (fun _ X => j_G_mark X s0 x1 x2) h
theorem kc_A_19 : zCV "FrameMachine$Arithmetic" 19 y_G_mark b_G_mark 3 none 2 := ⟨⟨kw_628, kw_629, kw_630, kw_4, kw_631⟩, by decide +kernel, by decide +kernel, by decide +kernel⟩
theorem mc_A_19 {ρ : Type} {E : ZE} {P : ZP} {A : Nat → Prop} {cc : ByteArray} {nL : Nat} {ret : Option FieldType} {fr lo : Nat} {F : ρ → State → Prop} {pc : Nat} {L : List (Nat × Value)} {rest : List Value} {σ : ZS} {x1 : Int32} {x2 : Int32} {K : ZS → Option ρ} (q : Nat) (X : ZX E (zcV P) A "FrameMachine$Arithmetic" cc nL ret fr lo) (d : decode cc pc = .ok (.invokevirtual 19, 3)) (hfr : 0 + 1 ≤ fr) (hlo : 8 + (3 + 11) + 0 ≤ lo) (hr : (rest.map fun v => v.category).sum ≤ 8) (hq : pc + 3 = q) (kk : ∀ p : ZS, ZJ E (zcV P) A nL F q L (rest) p (K p)) : ZJ E (zcV P) A nL F pc L (.int x2 :: .int x1 :: .ref (P.1 3) :: rest) σ ((f_G_mark σ x1 x2).bind K) :=
  zj_cVv q 3 3 (As := [.int x1, .int x2]) (rest := rest) X kc_A_19 hfr hlo (fun p h => c_G_mark (zx_v X) σ x1 x2 h) rfl rfl rfl hr d hq kk
theorem kc_P_283 : zCV "FrameMachine$Processor" 283 y_G_mark b_G_mark 3 none 2 := ⟨⟨kw_738, kw_629, kw_630, kw_4, kw_631⟩, by decide +kernel, by decide +kernel, by decide +kernel⟩
theorem mc_P_283 {ρ : Type} {E : ZE} {P : ZP} {A : Nat → Prop} {cc : ByteArray} {nL : Nat} {ret : Option FieldType} {fr lo : Nat} {F : ρ → State → Prop} {pc : Nat} {L : List (Nat × Value)} {rest : List Value} {σ : ZS} {x1 : Int32} {x2 : Int32} {K : ZS → Option ρ} (q : Nat) (X : ZX E (zcV P) A "FrameMachine$Processor" cc nL ret fr lo) (d : decode cc pc = .ok (.invokevirtual 283, 3)) (hfr : 0 + 1 ≤ fr) (hlo : 8 + (3 + 11) + 0 ≤ lo) (hr : (rest.map fun v => v.category).sum ≤ 8) (hq : pc + 3 = q) (kk : ∀ p : ZS, ZJ E (zcV P) A nL F q L (rest) p (K p)) : ZJ E (zcV P) A nL F pc L (.int x2 :: .int x1 :: .ref (P.1 3) :: rest) σ ((f_G_mark σ x1 x2).bind K) :=
  zj_cVv q 3 3 (As := [.int x1, .int x2]) (rest := rest) X kc_P_283 hfr hlo (fun p h => c_G_mark (zx_v X) σ x1 x2 h) rfl rfl rfl hr d hq kk
-- FrameMachine$Arithmetic.markSign(II)V
theorem kd_A_markSign_0 : decode b_A_markSign 0 = .ok (.aload_n 0, 1) := by decide +kernel
theorem kd_A_markSign_1 : decode b_A_markSign 1 = .ok (.getfield 9, 3) := by decide +kernel
theorem kd_A_markSign_4 : decode b_A_markSign 4 = .ok (.bipush 8, 2) := by decide +kernel
theorem kd_A_markSign_6 : decode b_A_markSign 6 = .ok (.iload_n 1, 1) := by decide +kernel
theorem kd_A_markSign_7 : decode b_A_markSign 7 = .ok (.iload_n 2, 1) := by decide +kernel
theorem kd_A_markSign_8 : decode b_A_markSign 8 = .ok (.invokestatic 25, 3) := by decide +kernel
theorem kd_A_markSign_11 : decode b_A_markSign 11 = .ok (.iand, 1) := by decide +kernel
theorem kd_A_markSign_12 : decode b_A_markSign 12 = .ok (.ifCond .eq 7, 3) := by decide +kernel
theorem kd_A_markSign_15 : decode b_A_markSign 15 = .ok (.iconst 1, 1) := by decide +kernel
theorem kd_A_markSign_16 : decode b_A_markSign 16 = .ok (.goto 4, 3) := by decide +kernel
theorem kd_A_markSign_19 : decode b_A_markSign 19 = .ok (.iconst 0, 1) := by decide +kernel
theorem kd_A_markSign_20 : decode b_A_markSign 20 = .ok (.invokevirtual 19, 3) := by decide +kernel
theorem kd_A_markSign_23 : decode b_A_markSign 23 = .ok (.aload_n 0, 1) := by decide +kernel
theorem kd_A_markSign_24 : decode b_A_markSign 24 = .ok (.getfield 9, 3) := by decide +kernel
theorem kd_A_markSign_27 : decode b_A_markSign 27 = .ok (.iconst 4, 1) := by decide +kernel
theorem kd_A_markSign_28 : decode b_A_markSign 28 = .ok (.iload_n 1, 1) := by decide +kernel
theorem kd_A_markSign_29 : decode b_A_markSign 29 = .ok (.iload_n 2, 1) := by decide +kernel
theorem kd_A_markSign_30 : decode b_A_markSign 30 = .ok (.invokestatic 29, 3) := by decide +kernel
theorem kd_A_markSign_33 : decode b_A_markSign 33 = .ok (.iand, 1) := by decide +kernel
theorem kd_A_markSign_34 : decode b_A_markSign 34 = .ok (.ifCond .ne 7, 3) := by decide +kernel
theorem kd_A_markSign_37 : decode b_A_markSign 37 = .ok (.iconst 1, 1) := by decide +kernel
theorem kd_A_markSign_38 : decode b_A_markSign 38 = .ok (.goto 4, 3) := by decide +kernel
theorem kd_A_markSign_41 : decode b_A_markSign 41 = .ok (.iconst 0, 1) := by decide +kernel
theorem kd_A_markSign_42 : decode b_A_markSign 42 = .ok (.invokevirtual 19, 3) := by decide +kernel
theorem kd_A_markSign_45 : decode b_A_markSign 45 = .ok (.return_, 1) := by decide +kernel
noncomputable def f_A_markSign_42 (s0 : ZS) (t0 : Int32) (t1 : Int32) : Option (ZS) :=
  (f_G_mark s0 t1 t0).bind fun s4 =>
  some s4
noncomputable def f_A_markSign_20 (s0 : ZS) (l1 : Int32) (l2 : Int32) (t0 : Int32) (t1 : Int32) : Option (ZS) :=
  (f_G_mark s0 t1 t0).bind fun s2 =>
  (f_F_maskOf s2 l2).bind fun p3 =>
  if (l1 &&& p3.1) = 0 then
    f_A_markSign_42 p3.2 1 4
  else
    f_A_markSign_42 p3.2 0 4
noncomputable def f_A_markSign (s0 : ZS) (x1 : Int32) (x2 : Int32) : Option (ZS) :=
  (f_F_topBitOf s0 x2).bind fun p1 =>
  if (x1 &&& p1.1) = 0 then
    f_A_markSign_20 p1.2 x1 x2 0 8
  else
    f_A_markSign_20 p1.2 x1 x2 1 8
theorem j_A_markSign_42 {P : ZP} {E : ZE} {A : Nat → Prop} (X : ZX E (zcV P) A "FrameMachine$Arithmetic" b_A_markSign 3 none 1 22) (s0 : ZS) (t0 : Int32) (t1 : Int32) : ZJ E (zcV P) A 3 (zFv E (zcV P) A) 42 [] [.int t0, .int t1, .ref (P.1 3)] s0 (f_A_markSign_42 s0 t0 t1) := by
  unfold f_A_markSign_42
  refine mc_A_19 45 X kd_A_markSign_42 (Nat.le_of_ble_eq_true rfl) (Nat.le_of_ble_eq_true rfl) (Nat.le_of_ble_eq_true rfl) rfl (fun s4 => ?_)
  exact zj_vret X kd_A_markSign_45
theorem j_A_markSign_20 {P : ZP} {E : ZE} {A : Nat → Prop} (X : ZX E (zcV P) A "FrameMachine$Arithmetic" b_A_markSign 3 none 1 22) (s0 : ZS) (l1 : Int32) (l2 : Int32) (t0 : Int32) (t1 : Int32) : ZJ E (zcV P) A 3 (zFv E (zcV P) A) 20 [(0, .ref (P.1 9)), (1, .int l1), (2, .int l2)] [.int t0, .int t1, .ref (P.1 3)] s0 (f_A_markSign_20 s0 l1 l2 t0 t1) := by
  unfold f_A_markSign_20
  refine mc_A_19 23 X kd_A_markSign_20 (Nat.le_of_ble_eq_true rfl) (Nat.le_of_ble_eq_true rfl) (Nat.le_of_ble_eq_true rfl) rfl (fun s2 => ?_)
  refine zj_aload_n 24 0 X kd_A_markSign_23 rfl rfl rfl ?_
  refine gf_A_9 27 X kd_A_markSign_24 rfl ?_
  refine zj_iconst 28 4 X kd_A_markSign_27 ki_4 rfl ?_
  refine zj_iload_n 29 1 X kd_A_markSign_28 rfl rfl rfl ?_
  refine zj_iload_n 30 2 X kd_A_markSign_29 rfl rfl rfl ?_
  refine mc_A_29 33 X kd_A_markSign_30 (Nat.le_of_ble_eq_true rfl) (Nat.le_of_ble_eq_true rfl) (Nat.le_of_ble_eq_true rfl) rfl (fun p3 => ?_)
  refine zj_iand 34 X kd_A_markSign_33 rfl ?_
  refine zj_if_ne 41 37 X kd_A_markSign_34 rfl rfl (fun _ => ?_) (fun _ => ?_)
  · refine zj_iconst 38 1 X kd_A_markSign_37 ki_1 rfl ?_
    refine zj_goto 42 X kd_A_markSign_38 rfl ?_
    refine zj_loc [] (L2 := []) rfl ?_
    exact j_A_markSign_42 X p3.2 1 4
  · refine zj_iconst 42 0 X kd_A_markSign_41 ki_0 rfl ?_
    refine zj_loc [] (L2 := []) rfl ?_
    exact j_A_markSign_42 X p3.2 0 4
theorem j_A_markSign {P : ZP} {E : ZE} {A : Nat → Prop} (X : ZX E (zcV P) A "FrameMachine$Arithmetic" b_A_markSign 3 none 1 22) (s0 : ZS) (x1 : Int32) (x2 : Int32) : ZJ E (zcV P) A 3 (zFv E (zcV P) A) 0 [(0, .ref (P.1 9)), (1, .int x1), (2, .int x2)] [] s0 (f_A_markSign s0 x1 x2) := by
  unfold f_A_markSign
  refine zj_aload_n 1 0 X kd_A_markSign_0 rfl rfl rfl ?_
  refine gf_A_9 4 X kd_A_markSign_1 rfl ?_
  refine zj_bipush 6 8 X kd_A_markSign_4 kb_8 rfl ?_
  refine zj_iload_n 7 1 X kd_A_markSign_6 rfl rfl rfl ?_
  refine zj_iload_n 8 2 X kd_A_markSign_7 rfl rfl rfl ?_
  refine mc_A_25 11 X kd_A_markSign_8 (Nat.le_of_ble_eq_true rfl) (Nat.le_of_ble_eq_true rfl) (Nat.le_of_ble_eq_true rfl) rfl (fun p1 => ?_)
  refine zj_iand 12 X kd_A_markSign_11 rfl ?_
  refine zj_if_eq 19 15 X kd_A_markSign_12 rfl rfl (fun _ => ?_) (fun _ => ?_)
  · refine zj_iconst 20 0 X kd_A_markSign_19 ki_0 rfl ?_
    exact j_A_markSign_20 X p1.2 x1 x2 0 8
  · refine zj_iconst 16 1 X kd_A_markSign_15 ki_1 rfl ?_
    refine zj_goto 20 X kd_A_markSign_16 rfl ?_
    exact j_A_markSign_20 X p1.2 x1 x2 1 8
theorem c_A_markSign {l : Launch} {P : ZP} (hV : ZVok (zcV P)) (s0 : ZS) (x1 : Int32) (x2 : Int32) {z : ZS} (h : f_A_markSign s0 x1 x2 = some z) : zMv l y_A_markSign b_A_markSign 3 none 1 22 (zcV P) s0 [.ref (P.1 9), .int x1, .int x2] z :=
  zMv_of (by decide +kernel) rfl rfl (Nat.le_of_ble_eq_true rfl) hV (fun _ X => j_A_markSign X s0 x1 x2) h
theorem kc_A_15 : zCV "FrameMachine$Arithmetic" 15 y_A_markSign b_A_markSign 3 none 2 := ⟨⟨kw_619, kw_621, ksel_14, kw_10, kw_622⟩, by decide +kernel, by decide +kernel, by decide +kernel⟩
theorem mc_A_15 {ρ : Type} {E : ZE} {P : ZP} {A : Nat → Prop} {cc : ByteArray} {nL : Nat} {ret : Option FieldType} {fr lo : Nat} {F : ρ → State → Prop} {pc : Nat} {L : List (Nat × Value)} {rest : List Value} {σ : ZS} {x1 : Int32} {x2 : Int32} {K : ZS → Option ρ} (q : Nat) (X : ZX E (zcV P) A "FrameMachine$Arithmetic" cc nL ret fr lo) (d : decode cc pc = .ok (.invokevirtual 15, 3)) (hfr : 1 + 1 ≤ fr) (hlo : 8 + (3 + 11) + 22 ≤ lo) (hr : (rest.map fun v => v.category).sum ≤ 8) (hq : pc + 3 = q) (kk : ∀ p : ZS, ZJ E (zcV P) A nL F q L (rest) p (K p)) : ZJ E (zcV P) A nL F pc L (.int x2 :: .int x1 :: .ref (P.1 9) :: rest) σ ((f_A_markSign σ x1 x2).bind K) :=
  zj_cVv q 9 9 (As := [.int x1, .int x2]) (rest := rest) X kc_A_15 hfr hlo (fun p h => c_A_markSign (zx_v X) σ x1 x2 h) rfl rfl rfl hr d hq kk
-- FrameMachine$Arithmetic.markResult(II)V
theorem kd_A_markResult_0 : decode b_A_markResult 0 = .ok (.aload_n 0, 1) := by decide +kernel
theorem kd_A_markResult_1 : decode b_A_markResult 1 = .ok (.iload_n 1, 1) := by decide +kernel
theorem kd_A_markResult_2 : decode b_A_markResult 2 = .ok (.iload_n 2, 1) := by decide +kernel
theorem kd_A_markResult_3 : decode b_A_markResult 3 = .ok (.invokevirtual 15, 3) := by decide +kernel
theorem kd_A_markResult_6 : decode b_A_markResult 6 = .ok (.aload_n 0, 1) := by decide +kernel
theorem kd_A_markResult_7 : decode b_A_markResult 7 = .ok (.getfield 9, 3) := by decide +kernel
theorem kd_A_markResult_10 : decode b_A_markResult 10 = .ok (.iconst 2, 1) := by decide +kernel
theorem kd_A_markResult_11 : decode b_A_markResult 11 = .ok (.iconst 0, 1) := by decide +kernel
theorem kd_A_markResult_12 : decode b_A_markResult 12 = .ok (.invokevirtual 19, 3) := by decide +kernel
theorem kd_A_markResult_15 : decode b_A_markResult 15 = .ok (.aload_n 0, 1) := by decide +kernel
theorem kd_A_markResult_16 : decode b_A_markResult 16 = .ok (.getfield 9, 3) := by decide +kernel
theorem kd_A_markResult_19 : decode b_A_markResult 19 = .ok (.iconst 1, 1) := by decide +kernel
theorem kd_A_markResult_20 : decode b_A_markResult 20 = .ok (.iconst 0, 1) := by decide +kernel
theorem kd_A_markResult_21 : decode b_A_markResult 21 = .ok (.invokevirtual 19, 3) := by decide +kernel
theorem kd_A_markResult_24 : decode b_A_markResult 24 = .ok (.return_, 1) := by decide +kernel
noncomputable def f_A_markResult (s0 : ZS) (x1 : Int32) (x2 : Int32) : Option (ZS) :=
  (f_A_markSign s0 x1 x2).bind fun s1 =>
  (f_G_mark s1 2 0).bind fun s2 =>
  (f_G_mark s2 1 0).bind fun s3 =>
  some s3
theorem j_A_markResult {P : ZP} {E : ZE} {A : Nat → Prop} (X : ZX E (zcV P) A "FrameMachine$Arithmetic" b_A_markResult 3 none 2 44) (s0 : ZS) (x1 : Int32) (x2 : Int32) : ZJ E (zcV P) A 3 (zFv E (zcV P) A) 0 [(0, .ref (P.1 9)), (1, .int x1), (2, .int x2)] [] s0 (f_A_markResult s0 x1 x2) := by
  unfold f_A_markResult
  refine zj_aload_n 1 0 X kd_A_markResult_0 rfl rfl rfl ?_
  refine zj_iload_n 2 1 X kd_A_markResult_1 rfl rfl rfl ?_
  refine zj_iload_n 3 2 X kd_A_markResult_2 rfl rfl rfl ?_
  refine mc_A_15 6 X kd_A_markResult_3 (Nat.le_of_ble_eq_true rfl) (Nat.le_of_ble_eq_true rfl) (Nat.le_of_ble_eq_true rfl) rfl (fun s1 => ?_)
  refine zj_aload_n 7 0 X kd_A_markResult_6 rfl rfl rfl ?_
  refine gf_A_9 10 X kd_A_markResult_7 rfl ?_
  refine zj_iconst 11 2 X kd_A_markResult_10 ki_2 rfl ?_
  refine zj_iconst 12 0 X kd_A_markResult_11 ki_0 rfl ?_
  refine mc_A_19 15 X kd_A_markResult_12 (Nat.le_of_ble_eq_true rfl) (Nat.le_of_ble_eq_true rfl) (Nat.le_of_ble_eq_true rfl) rfl (fun s2 => ?_)
  refine zj_aload_n 16 0 X kd_A_markResult_15 rfl rfl rfl ?_
  refine gf_A_9 19 X kd_A_markResult_16 rfl ?_
  refine zj_iconst 20 1 X kd_A_markResult_19 ki_1 rfl ?_
  refine zj_iconst 21 0 X kd_A_markResult_20 ki_0 rfl ?_
  refine mc_A_19 24 X kd_A_markResult_21 (Nat.le_of_ble_eq_true rfl) (Nat.le_of_ble_eq_true rfl) (Nat.le_of_ble_eq_true rfl) rfl (fun s3 => ?_)
  exact zj_vret X kd_A_markResult_24
theorem c_A_markResult {l : Launch} {P : ZP} (hV : ZVok (zcV P)) (s0 : ZS) (x1 : Int32) (x2 : Int32) {z : ZS} (h : f_A_markResult s0 x1 x2 = some z) : zMv l y_A_markResult b_A_markResult 3 none 2 44 (zcV P) s0 [.ref (P.1 9), .int x1, .int x2] z :=
  zMv_of (by decide +kernel) rfl rfl (Nat.le_of_ble_eq_true rfl) hV (fun _ X => j_A_markResult X s0 x1 x2) h
theorem kc_A_56 : zCV "FrameMachine$Arithmetic" 56 y_A_markResult b_A_markResult 3 none 2 := ⟨⟨kw_693, kw_616, kw_617, kw_10, kw_618⟩, by decide +kernel, by decide +kernel, by decide +kernel⟩
theorem mc_A_56 {ρ : Type} {E : ZE} {P : ZP} {A : Nat → Prop} {cc : ByteArray} {nL : Nat} {ret : Option FieldType} {fr lo : Nat} {F : ρ → State → Prop} {pc : Nat} {L : List (Nat × Value)} {rest : List Value} {σ : ZS} {x1 : Int32} {x2 : Int32} {K : ZS → Option ρ} (q : Nat) (X : ZX E (zcV P) A "FrameMachine$Arithmetic" cc nL ret fr lo) (d : decode cc pc = .ok (.invokevirtual 56, 3)) (hfr : 2 + 1 ≤ fr) (hlo : 8 + (3 + 11) + 44 ≤ lo) (hr : (rest.map fun v => v.category).sum ≤ 8) (hq : pc + 3 = q) (kk : ∀ p : ZS, ZJ E (zcV P) A nL F q L (rest) p (K p)) : ZJ E (zcV P) A nL F pc L (.int x2 :: .int x1 :: .ref (P.1 9) :: rest) σ ((f_A_markResult σ x1 x2).bind K) :=
  zj_cVv q 9 9 (As := [.int x1, .int x2]) (rest := rest) X kc_A_56 hfr hlo (fun p h => c_A_markResult (zx_v X) σ x1 x2 h) rfl rfl rfl hr d hq kk
theorem kc_P_205 : zCV "FrameMachine$Processor" 205 y_A_markResult b_A_markResult 3 none 2 := ⟨⟨kw_615, kw_616, kw_617, kw_10, kw_618⟩, by decide +kernel, by decide +kernel, by decide +kernel⟩
theorem mc_P_205 {ρ : Type} {E : ZE} {P : ZP} {A : Nat → Prop} {cc : ByteArray} {nL : Nat} {ret : Option FieldType} {fr lo : Nat} {F : ρ → State → Prop} {pc : Nat} {L : List (Nat × Value)} {rest : List Value} {σ : ZS} {x1 : Int32} {x2 : Int32} {K : ZS → Option ρ} (q : Nat) (X : ZX E (zcV P) A "FrameMachine$Processor" cc nL ret fr lo) (d : decode cc pc = .ok (.invokevirtual 205, 3)) (hfr : 2 + 1 ≤ fr) (hlo : 8 + (3 + 11) + 44 ≤ lo) (hr : (rest.map fun v => v.category).sum ≤ 8) (hq : pc + 3 = q) (kk : ∀ p : ZS, ZJ E (zcV P) A nL F q L (rest) p (K p)) : ZJ E (zcV P) A nL F pc L (.int x2 :: .int x1 :: .ref (P.1 9) :: rest) σ ((f_A_markResult σ x1 x2).bind K) :=
  zj_cVv q 9 9 (As := [.int x1, .int x2]) (rest := rest) X kc_P_205 hfr hlo (fun p h => c_A_markResult (zx_v X) σ x1 x2 h) rfl rfl rfl hr d hq kk
-- FrameMachine$Processor.putMarked(I)V
theorem kd_P_putMarked_0 : decode b_P_putMarked 0 = .ok (.aload_n 0, 1) := by decide +kernel
theorem kd_P_putMarked_1 : decode b_P_putMarked 1 = .ok (.iload_n 1, 1) := by decide +kernel
theorem kd_P_putMarked_2 : decode b_P_putMarked 2 = .ok (.invokevirtual 190, 3) := by decide +kernel
theorem kd_P_putMarked_5 : decode b_P_putMarked 5 = .ok (.aload_n 0, 1) := by decide +kernel
theorem kd_P_putMarked_6 : decode b_P_putMarked 6 = .ok (.getfield 48, 3) := by decide +kernel
theorem kd_P_putMarked_9 : decode b_P_putMarked 9 = .ok (.iload_n 1, 1) := by decide +kernel
theorem kd_P_putMarked_10 : decode b_P_putMarked 10 = .ok (.aload_n 0, 1) := by decide +kernel
theorem kd_P_putMarked_11 : decode b_P_putMarked 11 = .ok (.getfield 12, 3) := by decide +kernel
theorem kd_P_putMarked_14 : decode b_P_putMarked 14 = .ok (.getfield 160, 3) := by decide +kernel
theorem kd_P_putMarked_17 : decode b_P_putMarked 17 = .ok (.invokevirtual 205, 3) := by decide +kernel
theorem kd_P_putMarked_20 : decode b_P_putMarked 20 = .ok (.return_, 1) := by decide +kernel
noncomputable def f_P_putMarked (s0 : ZS) (x1 : Int32) : Option (ZS) :=
  (f_P_put s0 x1).bind fun s1 =>
  (f_A_markResult s1 x1 (s1 0 25)).bind fun s2 =>
  some s2
theorem j_P_putMarked {P : ZP} {E : ZE} {A : Nat → Prop} (X : ZX E (zcV P) A "FrameMachine$Processor" b_P_putMarked 2 none 3 66) (s0 : ZS) (x1 : Int32) : ZJ E (zcV P) A 2 (zFv E (zcV P) A) 0 [(0, .ref (P.1 6)), (1, .int x1)] [] s0 (f_P_putMarked s0 x1) := by
  unfold f_P_putMarked
  refine zj_aload_n 1 0 X kd_P_putMarked_0 rfl rfl rfl ?_
  refine zj_iload_n 2 1 X kd_P_putMarked_1 rfl rfl rfl ?_
  refine mc_P_190 5 X kd_P_putMarked_2 (Nat.le_of_ble_eq_true rfl) (Nat.le_of_ble_eq_true rfl) (Nat.le_of_ble_eq_true rfl) rfl (fun s1 => ?_)
  refine zj_aload_n 6 0 X kd_P_putMarked_5 rfl rfl rfl ?_
  refine gf_P_48 9 X kd_P_putMarked_6 rfl ?_
  refine zj_iload_n 10 1 X kd_P_putMarked_9 rfl rfl rfl ?_
  refine zj_aload_n 11 0 X kd_P_putMarked_10 rfl rfl rfl ?_
  refine gf_P_12 14 X kd_P_putMarked_11 rfl ?_
  refine gf_P_160 17 X kd_P_putMarked_14 rfl ?_
  refine mc_P_205 20 X kd_P_putMarked_17 (Nat.le_of_ble_eq_true rfl) (Nat.le_of_ble_eq_true rfl) (Nat.le_of_ble_eq_true rfl) rfl (fun s2 => ?_)
  exact zj_vret X kd_P_putMarked_20
theorem c_P_putMarked {l : Launch} {P : ZP} (hV : ZVok (zcV P)) (s0 : ZS) (x1 : Int32) {z : ZS} (h : f_P_putMarked s0 x1 = some z) : zMv l y_P_putMarked b_P_putMarked 2 none 3 66 (zcV P) s0 [.ref (P.1 6), .int x1] z :=
  zMv_of (by decide +kernel) rfl rfl (Nat.le_of_ble_eq_true rfl) hV (fun _ X => j_P_putMarked X s0 x1) h
theorem kc_P_173 : zCV "FrameMachine$Processor" 173 y_P_putMarked b_P_putMarked 2 none 1 := ⟨⟨kw_602, kw_604, ksel_12, kw_7, kw_605⟩, by decide +kernel, by decide +kernel, by decide +kernel⟩
theorem mc_P_173 {ρ : Type} {E : ZE} {P : ZP} {A : Nat → Prop} {cc : ByteArray} {nL : Nat} {ret : Option FieldType} {fr lo : Nat} {F : ρ → State → Prop} {pc : Nat} {L : List (Nat × Value)} {rest : List Value} {σ : ZS} {x1 : Int32} {K : ZS → Option ρ} (q : Nat) (X : ZX E (zcV P) A "FrameMachine$Processor" cc nL ret fr lo) (d : decode cc pc = .ok (.invokevirtual 173, 3)) (hfr : 3 + 1 ≤ fr) (hlo : 8 + (2 + 11) + 66 ≤ lo) (hr : (rest.map fun v => v.category).sum ≤ 8) (hq : pc + 3 = q) (kk : ∀ p : ZS, ZJ E (zcV P) A nL F q L (rest) p (K p)) : ZJ E (zcV P) A nL F pc L (.int x1 :: .ref (P.1 6) :: rest) σ ((f_P_putMarked σ x1).bind K) :=
  zj_cVv q 6 6 (As := [.int x1]) (rest := rest) X kc_P_173 hfr hlo (fun p h => c_P_putMarked (zx_v X) σ x1 h) rfl rfl rfl hr d hq kk
-- FrameMachine$Operand.store(I)V
theorem kd_O_store_0 : decode b_O_store 0 = .ok (.aload_n 0, 1) := by decide +kernel
theorem kd_O_store_1 : decode b_O_store 1 = .ok (.getfield 29, 3) := by decide +kernel
theorem kd_O_store_4 : decode b_O_store 4 = .ok (.ifCond .ne 22, 3) := by decide +kernel
theorem kd_O_store_7 : decode b_O_store 7 = .ok (.aload_n 0, 1) := by decide +kernel
theorem kd_O_store_8 : decode b_O_store 8 = .ok (.getfield 15, 3) := by decide +kernel
theorem kd_O_store_11 : decode b_O_store 11 = .ok (.aload_n 0, 1) := by decide +kernel
theorem kd_O_store_12 : decode b_O_store 12 = .ok (.getfield 35, 3) := by decide +kernel
theorem kd_O_store_15 : decode b_O_store 15 = .ok (.aload_n 0, 1) := by decide +kernel
theorem kd_O_store_16 : decode b_O_store 16 = .ok (.getfield 41, 3) := by decide +kernel
theorem kd_O_store_19 : decode b_O_store 19 = .ok (.iload_n 1, 1) := by decide +kernel
theorem kd_O_store_20 : decode b_O_store 20 = .ok (.invokevirtual 81, 3) := by decide +kernel
theorem kd_O_store_23 : decode b_O_store 23 = .ok (.goto 19, 3) := by decide +kernel
theorem kd_O_store_26 : decode b_O_store 26 = .ok (.aload_n 0, 1) := by decide +kernel
theorem kd_O_store_27 : decode b_O_store 27 = .ok (.getfield 9, 3) := by decide +kernel
theorem kd_O_store_30 : decode b_O_store 30 = .ok (.aload_n 0, 1) := by decide +kernel
theorem kd_O_store_31 : decode b_O_store 31 = .ok (.getfield 51, 3) := by decide +kernel
theorem kd_O_store_34 : decode b_O_store 34 = .ok (.aload_n 0, 1) := by decide +kernel
theorem kd_O_store_35 : decode b_O_store 35 = .ok (.getfield 41, 3) := by decide +kernel
theorem kd_O_store_38 : decode b_O_store 38 = .ok (.iload_n 1, 1) := by decide +kernel
theorem kd_O_store_39 : decode b_O_store 39 = .ok (.invokevirtual 85, 3) := by decide +kernel
theorem kd_O_store_42 : decode b_O_store 42 = .ok (.return_, 1) := by decide +kernel
noncomputable def f_O_store (s0 : ZS) (x1 : Int32) : Option (ZS) :=
  if (s0 0 29) = 0 then
    (f_G_putData s0 (s0 0 30) (s0 0 31) x1).bind fun s2 =>
    some s2
  else
    (f_B_write s0 (s0 0 32) (s0 0 31) x1).bind fun s1 =>
    some s1
theorem j_O_store {P : ZP} {E : ZE} {A : Nat → Prop} (X : ZX E (zcV P) A "FrameMachine$Operand" b_O_store 2 none 2 50) (s0 : ZS) (x1 : Int32) : ZJ E (zcV P) A 2 (zFv E (zcV P) A) 0 [(0, .ref (P.1 8)), (1, .int x1)] [] s0 (f_O_store s0 x1) := by
  unfold f_O_store
  refine zj_aload_n 1 0 X kd_O_store_0 rfl rfl rfl ?_
  refine gf_O_29 4 X kd_O_store_1 rfl ?_
  refine zj_if_ne 26 7 X kd_O_store_4 rfl rfl (fun _ => ?_) (fun _ => ?_)
  · refine zj_aload_n 8 0 X kd_O_store_7 rfl rfl rfl ?_
    refine gf_O_15 11 X kd_O_store_8 rfl ?_
    refine zj_aload_n 12 0 X kd_O_store_11 rfl rfl rfl ?_
    refine gf_O_35 15 X kd_O_store_12 rfl ?_
    refine zj_aload_n 16 0 X kd_O_store_15 rfl rfl rfl ?_
    refine gf_O_41 19 X kd_O_store_16 rfl ?_
    refine zj_iload_n 20 1 X kd_O_store_19 rfl rfl rfl ?_
    refine mc_O_81 23 X kd_O_store_20 (Nat.le_of_ble_eq_true rfl) (Nat.le_of_ble_eq_true rfl) (Nat.le_of_ble_eq_true rfl) rfl (fun s2 => ?_)
    refine zj_goto 42 X kd_O_store_23 rfl ?_
    exact zj_vret X kd_O_store_42
  · refine zj_aload_n 27 0 X kd_O_store_26 rfl rfl rfl ?_
    refine gf_O_9 30 X kd_O_store_27 rfl ?_
    refine zj_aload_n 31 0 X kd_O_store_30 rfl rfl rfl ?_
    refine gf_O_51 34 X kd_O_store_31 rfl ?_
    refine zj_aload_n 35 0 X kd_O_store_34 rfl rfl rfl ?_
    refine gf_O_41 38 X kd_O_store_35 rfl ?_
    refine zj_iload_n 39 1 X kd_O_store_38 rfl rfl rfl ?_
    refine mc_O_85 42 X kd_O_store_39 (Nat.le_of_ble_eq_true rfl) (Nat.le_of_ble_eq_true rfl) (Nat.le_of_ble_eq_true rfl) rfl (fun s1 => ?_)
    exact zj_vret X kd_O_store_42
theorem c_O_store {l : Launch} {P : ZP} (hV : ZVok (zcV P)) (s0 : ZS) (x1 : Int32) {z : ZS} (h : f_O_store s0 x1 = some z) : zMv l y_O_store b_O_store 2 none 2 50 (zcV P) s0 [.ref (P.1 8), .int x1] z :=
  zMv_of (by decide +kernel) rfl rfl (Nat.le_of_ble_eq_true rfl) hV (fun _ X => j_O_store X s0 x1) h
theorem kc_P_199 : zCV "FrameMachine$Processor" 199 y_O_store b_O_store 2 none 1 := ⟨⟨kw_637, kw_638, kw_639, kw_9, kw_640⟩, by decide +kernel, by decide +kernel, by decide +kernel⟩
theorem mc_P_199 {ρ : Type} {E : ZE} {P : ZP} {A : Nat → Prop} {cc : ByteArray} {nL : Nat} {ret : Option FieldType} {fr lo : Nat} {F : ρ → State → Prop} {pc : Nat} {L : List (Nat × Value)} {rest : List Value} {σ : ZS} {x1 : Int32} {K : ZS → Option ρ} (q : Nat) (X : ZX E (zcV P) A "FrameMachine$Processor" cc nL ret fr lo) (d : decode cc pc = .ok (.invokevirtual 199, 3)) (hfr : 2 + 1 ≤ fr) (hlo : 8 + (2 + 11) + 50 ≤ lo) (hr : (rest.map fun v => v.category).sum ≤ 8) (hq : pc + 3 = q) (kk : ∀ p : ZS, ZJ E (zcV P) A nL F q L (rest) p (K p)) : ZJ E (zcV P) A nL F pc L (.int x1 :: .ref (P.1 8) :: rest) σ ((f_O_store σ x1).bind K) :=
  zj_cVv q 8 8 (As := [.int x1]) (rest := rest) X kc_P_199 hfr hlo (fun p h => c_O_store (zx_v X) σ x1 h) rfl rfl rfl hr d hq kk
