-- FrameMachine$Processor.storeMarked(I)V
theorem kd_P_storeMarked_0 : decode b_P_storeMarked 0 = .ok (.aload_n 0, 1) := by decide +kernel
theorem kd_P_storeMarked_1 : decode b_P_storeMarked 1 = .ok (.getfield 39, 3) := by decide +kernel
theorem kd_P_storeMarked_4 : decode b_P_storeMarked 4 = .ok (.iload_n 1, 1) := by decide +kernel
theorem kd_P_storeMarked_5 : decode b_P_storeMarked 5 = .ok (.invokevirtual 199, 3) := by decide +kernel
theorem kd_P_storeMarked_8 : decode b_P_storeMarked 8 = .ok (.aload_n 0, 1) := by decide +kernel
theorem kd_P_storeMarked_9 : decode b_P_storeMarked 9 = .ok (.getfield 18, 3) := by decide +kernel
theorem kd_P_storeMarked_12 : decode b_P_storeMarked 12 = .ok (.getfield 117, 3) := by decide +kernel
theorem kd_P_storeMarked_15 : decode b_P_storeMarked 15 = .ok (.ifCond .ne 18, 3) := by decide +kernel
theorem kd_P_storeMarked_18 : decode b_P_storeMarked 18 = .ok (.aload_n 0, 1) := by decide +kernel
theorem kd_P_storeMarked_19 : decode b_P_storeMarked 19 = .ok (.getfield 48, 3) := by decide +kernel
theorem kd_P_storeMarked_22 : decode b_P_storeMarked 22 = .ok (.iload_n 1, 1) := by decide +kernel
theorem kd_P_storeMarked_23 : decode b_P_storeMarked 23 = .ok (.aload_n 0, 1) := by decide +kernel
theorem kd_P_storeMarked_24 : decode b_P_storeMarked 24 = .ok (.getfield 12, 3) := by decide +kernel
theorem kd_P_storeMarked_27 : decode b_P_storeMarked 27 = .ok (.getfield 160, 3) := by decide +kernel
theorem kd_P_storeMarked_30 : decode b_P_storeMarked 30 = .ok (.invokevirtual 205, 3) := by decide +kernel
theorem kd_P_storeMarked_33 : decode b_P_storeMarked 33 = .ok (.return_, 1) := by decide +kernel
noncomputable def f_P_storeMarked (s0 : ZS) (x1 : Int32) : Option (ZS) :=
  (f_O_store s0 x1).bind fun s1 =>
  if (s1 0 10) = 0 then
    (f_A_markResult s1 x1 (s1 0 25)).bind fun s2 =>
    some s2
  else
    some s1
theorem j_P_storeMarked {P : ZP} {E : ZE} {A : Nat → Prop} (X : ZX E (zcV P) A "FrameMachine$Processor" b_P_storeMarked 2 none 3 71) (s0 : ZS) (x1 : Int32) : ZJ E (zcV P) A 2 (zFv E (zcV P) A) 0 [(0, .ref (P.1 6)), (1, .int x1)] [] s0 (f_P_storeMarked s0 x1) := by
  unfold f_P_storeMarked
  refine zj_aload_n 1 0 X kd_P_storeMarked_0 rfl rfl rfl ?_
  refine gf_P_39 4 X kd_P_storeMarked_1 rfl ?_
  refine zj_iload_n 5 1 X kd_P_storeMarked_4 rfl rfl rfl ?_
  refine mc_P_199 8 X kd_P_storeMarked_5 (Nat.le_of_ble_eq_true rfl) (Nat.le_of_ble_eq_true rfl) (Nat.le_of_ble_eq_true rfl) rfl (fun s1 => ?_)
  refine zj_aload_n 9 0 X kd_P_storeMarked_8 rfl rfl rfl ?_
  refine gf_P_18 12 X kd_P_storeMarked_9 rfl ?_
  refine gf_P_117 15 X kd_P_storeMarked_12 rfl ?_
  refine zj_if_ne 33 18 X kd_P_storeMarked_15 rfl rfl (fun _ => ?_) (fun _ => ?_)
  · refine zj_aload_n 19 0 X kd_P_storeMarked_18 rfl rfl rfl ?_
    refine gf_P_48 22 X kd_P_storeMarked_19 rfl ?_
    refine zj_iload_n 23 1 X kd_P_storeMarked_22 rfl rfl rfl ?_
    refine zj_aload_n 24 0 X kd_P_storeMarked_23 rfl rfl rfl ?_
    refine gf_P_12 27 X kd_P_storeMarked_24 rfl ?_
    refine gf_P_160 30 X kd_P_storeMarked_27 rfl ?_
    refine mc_P_205 33 X kd_P_storeMarked_30 (Nat.le_of_ble_eq_true rfl) (Nat.le_of_ble_eq_true rfl) (Nat.le_of_ble_eq_true rfl) rfl (fun s2 => ?_)
    exact zj_vret X kd_P_storeMarked_33
  · exact zj_vret X kd_P_storeMarked_33
theorem c_P_storeMarked {l : Launch} {P : ZP} (hV : ZVok (zcV P)) (s0 : ZS) (x1 : Int32) {z : ZS} (h : f_P_storeMarked s0 x1 = some z) : zMv l y_P_storeMarked b_P_storeMarked 2 none 3 71 (zcV P) s0 [.ref (P.1 6), .int x1] z :=
  zMv_of (by decide +kernel) rfl rfl (Nat.le_of_ble_eq_true rfl) hV (fun _ X => j_P_storeMarked X s0 x1) h
theorem kc_P_176 : zCV "FrameMachine$Processor" 176 y_P_storeMarked b_P_storeMarked 2 none 1 := ⟨⟨kw_633, kw_635, ksel_15, kw_7, kw_636⟩, by decide +kernel, by decide +kernel, by decide +kernel⟩
theorem mc_P_176 {ρ : Type} {E : ZE} {P : ZP} {A : Nat → Prop} {cc : ByteArray} {nL : Nat} {ret : Option FieldType} {fr lo : Nat} {F : ρ → State → Prop} {pc : Nat} {L : List (Nat × Value)} {rest : List Value} {σ : ZS} {x1 : Int32} {K : ZS → Option ρ} (q : Nat) (X : ZX E (zcV P) A "FrameMachine$Processor" cc nL ret fr lo) (d : decode cc pc = .ok (.invokevirtual 176, 3)) (hfr : 3 + 1 ≤ fr) (hlo : 8 + (2 + 11) + 71 ≤ lo) (hr : (rest.map fun v => v.category).sum ≤ 8) (hq : pc + 3 = q) (kk : ∀ p : ZS, ZJ E (zcV P) A nL F q L (rest) p (K p)) : ZJ E (zcV P) A nL F pc L (.int x1 :: .ref (P.1 6) :: rest) σ ((f_P_storeMarked σ x1).bind K) :=
  zj_cVv q 6 6 (As := [.int x1]) (rest := rest) X kc_P_176 hfr hlo (fun p h => c_P_storeMarked (zx_v X) σ x1 h) rfl rfl rfl hr d hq kk
-- FrameMachine.withSign(II)I
theorem kd_F_withSign_0 : decode b_F_withSign 0 = .ok (.iload_n 1, 1) := by decide +kernel
theorem kd_F_withSign_1 : decode b_F_withSign 1 = .ok (.ifCond .ne 8, 3) := by decide +kernel
theorem kd_F_withSign_4 : decode b_F_withSign 4 = .ok (.iload_n 0, 1) := by decide +kernel
theorem kd_F_withSign_5 : decode b_F_withSign 5 = .ok (.i2b, 1) := by decide +kernel
theorem kd_F_withSign_6 : decode b_F_withSign 6 = .ok (.goto 14, 3) := by decide +kernel
theorem kd_F_withSign_9 : decode b_F_withSign 9 = .ok (.iload_n 1, 1) := by decide +kernel
theorem kd_F_withSign_10 : decode b_F_withSign 10 = .ok (.iconst 1, 1) := by decide +kernel
theorem kd_F_withSign_11 : decode b_F_withSign 11 = .ok (.if_icmp .ne 8, 3) := by decide +kernel
theorem kd_F_withSign_14 : decode b_F_withSign 14 = .ok (.iload_n 0, 1) := by decide +kernel
theorem kd_F_withSign_15 : decode b_F_withSign 15 = .ok (.i2s, 1) := by decide +kernel
theorem kd_F_withSign_16 : decode b_F_withSign 16 = .ok (.goto 4, 3) := by decide +kernel
theorem kd_F_withSign_19 : decode b_F_withSign 19 = .ok (.iload_n 0, 1) := by decide +kernel
theorem kd_F_withSign_20 : decode b_F_withSign 20 = .ok (.ireturn, 1) := by decide +kernel
noncomputable def f_F_withSign (s0 : ZS) (x1 : Int32) (x2 : Int32) : Option (Int32 × ZS) :=
  if x2 = 0 then
    some (x1.toInt8.toInt32, s0)
  else
    if x2 = 1 then
      some (x1.toInt16.toInt32, s0)
    else
      some (x1, s0)
theorem j_F_withSign {P : ZP} {E : ZE} {A : Nat → Prop} (X : ZX E (zcV P) A "FrameMachine" b_F_withSign 2 (some .int) 0 0) (s0 : ZS) (x1 : Int32) (x2 : Int32) : ZJ E (zcV P) A 2 (zFi E (zcV P) A) 0 [(0, .int x1), (1, .int x2)] [] s0 (f_F_withSign s0 x1 x2) := by
  unfold f_F_withSign
  refine zj_iload_n 1 1 X kd_F_withSign_0 rfl rfl rfl ?_
  refine zj_if_ne 9 4 X kd_F_withSign_1 rfl rfl (fun _ => ?_) (fun _ => ?_)
  · refine zj_iload_n 5 0 X kd_F_withSign_4 rfl rfl rfl ?_
    refine zj_i2b 6 X kd_F_withSign_5 rfl ?_
    refine zj_goto 20 X kd_F_withSign_6 rfl ?_
    exact zj_iret X kd_F_withSign_20
  · refine zj_iload_n 10 1 X kd_F_withSign_9 rfl rfl rfl ?_
    refine zj_iconst 11 1 X kd_F_withSign_10 ki_1 rfl ?_
    refine zj_icmp_ne 19 14 X kd_F_withSign_11 rfl rfl (fun _ => ?_) (fun _ => ?_)
    · refine zj_iload_n 15 0 X kd_F_withSign_14 rfl rfl rfl ?_
      refine zj_i2s 16 X kd_F_withSign_15 rfl ?_
      refine zj_goto 20 X kd_F_withSign_16 rfl ?_
      exact zj_iret X kd_F_withSign_20
    · refine zj_iload_n 20 0 X kd_F_withSign_19 rfl rfl rfl ?_
      exact zj_iret X kd_F_withSign_20
theorem c_F_withSign {l : Launch} {P : ZP} (hV : ZVok (zcV P)) (s0 : ZS) (x1 : Int32) (x2 : Int32) {z : Int32 × ZS} (h : f_F_withSign s0 x1 x2 = some z) : zMi l y_F_withSign b_F_withSign 2 (some .int) 0 0 (zcV P) s0 [.int x1, .int x2] z :=
  zMi_of (by decide +kernel) rfl rfl (Nat.le_of_ble_eq_true rfl) hV (fun _ X => j_F_withSign X s0 x1 x2) h
theorem kc_P_182 : zCN "FrameMachine$Processor" 182 y_F_withSign "FrameMachine" b_F_withSign 2 (some .int) 2 := ⟨⟨kw_643, kw_1, kw_645⟩, by decide +kernel, by decide +kernel, by decide +kernel⟩
theorem mc_P_182 {ρ : Type} {E : ZE} {P : ZP} {A : Nat → Prop} {cc : ByteArray} {nL : Nat} {ret : Option FieldType} {fr lo : Nat} {F : ρ → State → Prop} {pc : Nat} {L : List (Nat × Value)} {rest : List Value} {σ : ZS} {x1 : Int32} {x2 : Int32} {K : Int32 × ZS → Option ρ} (q : Nat) (X : ZX E (zcV P) A "FrameMachine$Processor" cc nL ret fr lo) (d : decode cc pc = .ok (.invokestatic 182, 3)) (hfr : 0 + 1 ≤ fr) (hlo : 8 + (2 + 11) + 0 ≤ lo) (hr : (rest.map fun v => v.category).sum ≤ 8) (hq : pc + 3 = q) (kk : ∀ p : Int32 × ZS, ZJ E (zcV P) A nL F q L (.int p.1 :: rest) p.2 (K p)) : ZJ E (zcV P) A nL F pc L (.int x2 :: .int x1 :: rest) σ ((f_F_withSign σ x1 x2).bind K) :=
  zj_cSNi q (As := [.int x1, .int x2]) (rest := rest) X kc_P_182 kw_644 hfr hlo (fun p h => c_F_withSign (zx_v X) σ x1 x2 h) rfl hr d hq kk
-- FrameMachine$Arithmetic.isBelow(II)Z
theorem kd_A_isBelow_0 : decode b_A_isBelow 0 = .ok (.iload_n 0, 1) := by decide +kernel
theorem kd_A_isBelow_1 : decode b_A_isBelow 1 = .ok (.ldc 44, 2) := by decide +kernel
theorem kd_A_isBelow_3 : decode b_A_isBelow 3 = .ok (.ixor, 1) := by decide +kernel
theorem kd_A_isBelow_4 : decode b_A_isBelow 4 = .ok (.iload_n 1, 1) := by decide +kernel
theorem kd_A_isBelow_5 : decode b_A_isBelow 5 = .ok (.ldc 44, 2) := by decide +kernel
theorem kd_A_isBelow_7 : decode b_A_isBelow 7 = .ok (.ixor, 1) := by decide +kernel
theorem kd_A_isBelow_8 : decode b_A_isBelow 8 = .ok (.if_icmp .ge 7, 3) := by decide +kernel
theorem kd_A_isBelow_11 : decode b_A_isBelow 11 = .ok (.iconst 1, 1) := by decide +kernel
theorem kd_A_isBelow_12 : decode b_A_isBelow 12 = .ok (.goto 4, 3) := by decide +kernel
theorem kd_A_isBelow_15 : decode b_A_isBelow 15 = .ok (.iconst 0, 1) := by decide +kernel
theorem kd_A_isBelow_16 : decode b_A_isBelow 16 = .ok (.ireturn, 1) := by decide +kernel
noncomputable def f_A_isBelow (s0 : ZS) (x1 : Int32) (x2 : Int32) : Option (Int32 × ZS) :=
  if (x2 ^^^ ((-2147483648))) ≤ (x1 ^^^ ((-2147483648))) then
    some (0, s0)
  else
    some (1, s0)
theorem j_A_isBelow {P : ZP} {E : ZE} {A : Nat → Prop} (X : ZX E (zcV P) A "FrameMachine$Arithmetic" b_A_isBelow 2 (some .boolean) 0 0) (s0 : ZS) (x1 : Int32) (x2 : Int32) : ZJ E (zcV P) A 2 (zFi E (zcV P) A) 0 [(0, .int x1), (1, .int x2)] [] s0 (f_A_isBelow s0 x1 x2) := by
  unfold f_A_isBelow
  refine zj_iload_n 1 0 X kd_A_isBelow_0 rfl rfl rfl ?_
  refine zj_ldc 3 ((-2147483648)) X kd_A_isBelow_1 kw_653 rfl ?_
  refine zj_ixor 4 X kd_A_isBelow_3 rfl ?_
  refine zj_iload_n 5 1 X kd_A_isBelow_4 rfl rfl rfl ?_
  refine zj_ldc 7 ((-2147483648)) X kd_A_isBelow_5 kw_653 rfl ?_
  refine zj_ixor 8 X kd_A_isBelow_7 rfl ?_
  refine zj_icmp_ge 15 11 X kd_A_isBelow_8 rfl rfl (fun _ => ?_) (fun _ => ?_)
  · refine zj_iconst 16 0 X kd_A_isBelow_15 ki_0 rfl ?_
    exact zj_zret X kd_A_isBelow_16 (Or.inl rfl)
  · refine zj_iconst 12 1 X kd_A_isBelow_11 ki_1 rfl ?_
    refine zj_goto 16 X kd_A_isBelow_12 rfl ?_
    exact zj_zret X kd_A_isBelow_16 (Or.inr rfl)
theorem c_A_isBelow {l : Launch} {P : ZP} (hV : ZVok (zcV P)) (s0 : ZS) (x1 : Int32) (x2 : Int32) {z : Int32 × ZS} (h : f_A_isBelow s0 x1 x2 = some z) : zMi l y_A_isBelow b_A_isBelow 2 (some .boolean) 0 0 (zcV P) s0 [.int x1, .int x2] z :=
  zMi_of (by decide +kernel) rfl rfl (Nat.le_of_ble_eq_true rfl) hV (fun _ X => j_A_isBelow X s0 x1 x2) h
theorem kc_A_32 : zCS "FrameMachine$Arithmetic" 32 y_A_isBelow b_A_isBelow 2 (some .boolean) 2 := ⟨⟨kw_650, kw_651, kw_10, kw_652⟩, by decide +kernel, by decide +kernel, by decide +kernel⟩
theorem mc_A_32 {ρ : Type} {E : ZE} {P : ZP} {A : Nat → Prop} {cc : ByteArray} {nL : Nat} {ret : Option FieldType} {fr lo : Nat} {F : ρ → State → Prop} {pc : Nat} {L : List (Nat × Value)} {rest : List Value} {σ : ZS} {x1 : Int32} {x2 : Int32} {K : Int32 × ZS → Option ρ} (q : Nat) (X : ZX E (zcV P) A "FrameMachine$Arithmetic" cc nL ret fr lo) (d : decode cc pc = .ok (.invokestatic 32, 3)) (hfr : 0 + 1 ≤ fr) (hlo : 8 + (2 + 11) + 0 ≤ lo) (hr : (rest.map fun v => v.category).sum ≤ 8) (hq : pc + 3 = q) (kk : ∀ p : Int32 × ZS, ZJ E (zcV P) A nL F q L (.int p.1 :: rest) p.2 (K p)) : ZJ E (zcV P) A nL F pc L (.int x2 :: .int x1 :: rest) σ ((f_A_isBelow σ x1 x2).bind K) :=
  zj_cSi q (As := [.int x1, .int x2]) (rest := rest) X kc_A_32 hfr hlo (fun p h => c_A_isBelow (zx_v X) σ x1 x2 h) rfl hr d hq kk
-- FrameMachine$Arithmetic.sum(III)I
theorem kd_A_sum_0 : decode b_A_sum 0 = .ok (.iload_n 1, 1) := by decide +kernel
theorem kd_A_sum_1 : decode b_A_sum 1 = .ok (.iload_n 2, 1) := by decide +kernel
theorem kd_A_sum_2 : decode b_A_sum 2 = .ok (.iadd, 1) := by decide +kernel
theorem kd_A_sum_3 : decode b_A_sum 3 = .ok (.iload_n 3, 1) := by decide +kernel
theorem kd_A_sum_4 : decode b_A_sum 4 = .ok (.invokestatic 29, 3) := by decide +kernel
theorem kd_A_sum_7 : decode b_A_sum 7 = .ok (.iand, 1) := by decide +kernel
theorem kd_A_sum_8 : decode b_A_sum 8 = .ok (.istore 4, 2) := by decide +kernel
theorem kd_A_sum_10 : decode b_A_sum 10 = .ok (.iload 4, 2) := by decide +kernel
theorem kd_A_sum_12 : decode b_A_sum 12 = .ok (.iload_n 1, 1) := by decide +kernel
theorem kd_A_sum_13 : decode b_A_sum 13 = .ok (.iload_n 3, 1) := by decide +kernel
theorem kd_A_sum_14 : decode b_A_sum 14 = .ok (.invokestatic 29, 3) := by decide +kernel
theorem kd_A_sum_17 : decode b_A_sum 17 = .ok (.iand, 1) := by decide +kernel
theorem kd_A_sum_18 : decode b_A_sum 18 = .ok (.invokestatic 32, 3) := by decide +kernel
theorem kd_A_sum_21 : decode b_A_sum 21 = .ok (.istore 5, 2) := by decide +kernel
theorem kd_A_sum_23 : decode b_A_sum 23 = .ok (.aload_n 0, 1) := by decide +kernel
theorem kd_A_sum_24 : decode b_A_sum 24 = .ok (.iload 4, 2) := by decide +kernel
theorem kd_A_sum_26 : decode b_A_sum 26 = .ok (.iload_n 3, 1) := by decide +kernel
theorem kd_A_sum_27 : decode b_A_sum 27 = .ok (.invokevirtual 15, 3) := by decide +kernel
theorem kd_A_sum_30 : decode b_A_sum 30 = .ok (.aload_n 0, 1) := by decide +kernel
theorem kd_A_sum_31 : decode b_A_sum 31 = .ok (.getfield 9, 3) := by decide +kernel
theorem kd_A_sum_34 : decode b_A_sum 34 = .ok (.iconst 1, 1) := by decide +kernel
theorem kd_A_sum_35 : decode b_A_sum 35 = .ok (.iload 5, 2) := by decide +kernel
theorem kd_A_sum_37 : decode b_A_sum 37 = .ok (.invokevirtual 19, 3) := by decide +kernel
theorem kd_A_sum_40 : decode b_A_sum 40 = .ok (.aload_n 0, 1) := by decide +kernel
theorem kd_A_sum_41 : decode b_A_sum 41 = .ok (.getfield 9, 3) := by decide +kernel
theorem kd_A_sum_44 : decode b_A_sum 44 = .ok (.bipush 16, 2) := by decide +kernel
theorem kd_A_sum_46 : decode b_A_sum 46 = .ok (.iload 5, 2) := by decide +kernel
theorem kd_A_sum_48 : decode b_A_sum 48 = .ok (.invokevirtual 19, 3) := by decide +kernel
theorem kd_A_sum_51 : decode b_A_sum 51 = .ok (.aload_n 0, 1) := by decide +kernel
theorem kd_A_sum_52 : decode b_A_sum 52 = .ok (.getfield 9, 3) := by decide +kernel
theorem kd_A_sum_55 : decode b_A_sum 55 = .ok (.iconst 2, 1) := by decide +kernel
theorem kd_A_sum_56 : decode b_A_sum 56 = .ok (.iload_n 1, 1) := by decide +kernel
theorem kd_A_sum_57 : decode b_A_sum 57 = .ok (.iload 4, 2) := by decide +kernel
theorem kd_A_sum_59 : decode b_A_sum 59 = .ok (.ixor, 1) := by decide +kernel
theorem kd_A_sum_60 : decode b_A_sum 60 = .ok (.iload_n 2, 1) := by decide +kernel
theorem kd_A_sum_61 : decode b_A_sum 61 = .ok (.iload 4, 2) := by decide +kernel
theorem kd_A_sum_63 : decode b_A_sum 63 = .ok (.ixor, 1) := by decide +kernel
theorem kd_A_sum_64 : decode b_A_sum 64 = .ok (.iand, 1) := by decide +kernel
theorem kd_A_sum_65 : decode b_A_sum 65 = .ok (.iload_n 3, 1) := by decide +kernel
theorem kd_A_sum_66 : decode b_A_sum 66 = .ok (.invokestatic 25, 3) := by decide +kernel
theorem kd_A_sum_69 : decode b_A_sum 69 = .ok (.iand, 1) := by decide +kernel
theorem kd_A_sum_70 : decode b_A_sum 70 = .ok (.ifCond .eq 7, 3) := by decide +kernel
theorem kd_A_sum_73 : decode b_A_sum 73 = .ok (.iconst 1, 1) := by decide +kernel
theorem kd_A_sum_74 : decode b_A_sum 74 = .ok (.goto 4, 3) := by decide +kernel
theorem kd_A_sum_77 : decode b_A_sum 77 = .ok (.iconst 0, 1) := by decide +kernel
theorem kd_A_sum_78 : decode b_A_sum 78 = .ok (.invokevirtual 19, 3) := by decide +kernel
theorem kd_A_sum_81 : decode b_A_sum 81 = .ok (.iload 4, 2) := by decide +kernel
theorem kd_A_sum_83 : decode b_A_sum 83 = .ok (.ireturn, 1) := by decide +kernel
noncomputable def f_A_sum_78 (s0 : ZS) (l4 : Int32) (t0 : Int32) (t1 : Int32) : Option (Int32 × ZS) :=
  (f_G_mark s0 t1 t0).bind fun s9 =>
  some (l4, s9)
noncomputable def f_A_sum (s0 : ZS) (x1 : Int32) (x2 : Int32) (x3 : Int32) : Option (Int32 × ZS) :=
  (f_F_maskOf s0 x3).bind fun p1 =>
  zs_nm ((x1 + x2) &&& p1.1) fun v2 =>
  (f_F_maskOf p1.2 x3).bind fun p3 =>
  (f_A_isBelow p3.2 v2 (x1 &&& p3.1)).bind fun p4 =>
  (f_A_markSign p4.2 v2 x3).bind fun s5 =>
  (f_G_mark s5 1 p4.1).bind fun s6 =>
  (f_G_mark s6 16 p4.1).bind fun s7 =>
  (f_F_topBitOf s7 x3).bind fun p8 =>
  if (((x1 ^^^ v2) &&& (x2 ^^^ v2)) &&& p8.1) = 0 then
    f_A_sum_78 p8.2 v2 0 2
  else
    f_A_sum_78 p8.2 v2 1 2
theorem j_A_sum_78 {P : ZP} {E : ZE} {A : Nat → Prop} (X : ZX E (zcV P) A "FrameMachine$Arithmetic" b_A_sum 6 (some .int) 2 44) (s0 : ZS) (l4 : Int32) (t0 : Int32) (t1 : Int32) : ZJ E (zcV P) A 6 (zFi E (zcV P) A) 78 [(4, .int l4)] [.int t0, .int t1, .ref (P.1 3)] s0 (f_A_sum_78 s0 l4 t0 t1) := by
  unfold f_A_sum_78
  refine mc_A_19 81 X kd_A_sum_78 (Nat.le_of_ble_eq_true rfl) (Nat.le_of_ble_eq_true rfl) (Nat.le_of_ble_eq_true rfl) rfl (fun s9 => ?_)
  refine zj_iload 83 0 X kd_A_sum_81 rfl rfl ?_
  exact zj_iret X kd_A_sum_83
theorem j_A_sum {P : ZP} {E : ZE} {A : Nat → Prop} (X : ZX E (zcV P) A "FrameMachine$Arithmetic" b_A_sum 6 (some .int) 2 44) (s0 : ZS) (x1 : Int32) (x2 : Int32) (x3 : Int32) : ZJ E (zcV P) A 6 (zFi E (zcV P) A) 0 [(0, .ref (P.1 9)), (1, .int x1), (2, .int x2), (3, .int x3)] [] s0 (f_A_sum s0 x1 x2 x3) := by
  unfold f_A_sum
  refine zj_iload_n 1 1 X kd_A_sum_0 rfl rfl rfl ?_
  refine zj_iload_n 2 2 X kd_A_sum_1 rfl rfl rfl ?_
  refine zj_iadd 3 X kd_A_sum_2 rfl ?_
  refine zj_iload_n 4 3 X kd_A_sum_3 rfl rfl rfl ?_
  refine mc_A_29 7 X kd_A_sum_4 (Nat.le_of_ble_eq_true rfl) (Nat.le_of_ble_eq_true rfl) (Nat.le_of_ble_eq_true rfl) rfl (fun p1 => ?_)
  refine zj_iand 8 X kd_A_sum_7 rfl ?_
  refine zj_nmi (fun v2 => ?_)
  refine zj_istore 10 [(4, .int v2), (0, .ref (P.1 9)), (1, .int x1), (2, .int x2), (3, .int x3)] X kd_A_sum_8 (Nat.le_of_ble_eq_true rfl) rfl rfl ?_
  refine zj_iload 12 0 X kd_A_sum_10 rfl rfl ?_
  refine zj_iload_n 13 2 X kd_A_sum_12 rfl rfl rfl ?_
  refine zj_iload_n 14 4 X kd_A_sum_13 rfl rfl rfl ?_
  refine mc_A_29 17 X kd_A_sum_14 (Nat.le_of_ble_eq_true rfl) (Nat.le_of_ble_eq_true rfl) (Nat.le_of_ble_eq_true rfl) rfl (fun p3 => ?_)
  refine zj_iand 18 X kd_A_sum_17 rfl ?_
  refine mc_A_32 21 X kd_A_sum_18 (Nat.le_of_ble_eq_true rfl) (Nat.le_of_ble_eq_true rfl) (Nat.le_of_ble_eq_true rfl) rfl (fun p4 => ?_)
  refine zj_istore 23 [(5, .int p4.1), (4, .int v2), (0, .ref (P.1 9)), (1, .int x1), (2, .int x2), (3, .int x3)] X kd_A_sum_21 (Nat.le_of_ble_eq_true rfl) rfl rfl ?_
  refine zj_aload_n 24 2 X kd_A_sum_23 rfl rfl rfl ?_
  refine zj_iload 26 1 X kd_A_sum_24 rfl rfl ?_
  refine zj_iload_n 27 5 X kd_A_sum_26 rfl rfl rfl ?_
  refine mc_A_15 30 X kd_A_sum_27 (Nat.le_of_ble_eq_true rfl) (Nat.le_of_ble_eq_true rfl) (Nat.le_of_ble_eq_true rfl) rfl (fun s5 => ?_)
  refine zj_aload_n 31 2 X kd_A_sum_30 rfl rfl rfl ?_
  refine gf_A_9 34 X kd_A_sum_31 rfl ?_
  refine zj_iconst 35 1 X kd_A_sum_34 ki_1 rfl ?_
  refine zj_iload 37 0 X kd_A_sum_35 rfl rfl ?_
  refine mc_A_19 40 X kd_A_sum_37 (Nat.le_of_ble_eq_true rfl) (Nat.le_of_ble_eq_true rfl) (Nat.le_of_ble_eq_true rfl) rfl (fun s6 => ?_)
  refine zj_aload_n 41 2 X kd_A_sum_40 rfl rfl rfl ?_
  refine gf_A_9 44 X kd_A_sum_41 rfl ?_
  refine zj_bipush 46 16 X kd_A_sum_44 kb_16 rfl ?_
  refine zj_iload 48 0 X kd_A_sum_46 rfl rfl ?_
  refine mc_A_19 51 X kd_A_sum_48 (Nat.le_of_ble_eq_true rfl) (Nat.le_of_ble_eq_true rfl) (Nat.le_of_ble_eq_true rfl) rfl (fun s7 => ?_)
  refine zj_aload_n 52 2 X kd_A_sum_51 rfl rfl rfl ?_
  refine gf_A_9 55 X kd_A_sum_52 rfl ?_
  refine zj_iconst 56 2 X kd_A_sum_55 ki_2 rfl ?_
  refine zj_iload_n 57 3 X kd_A_sum_56 rfl rfl rfl ?_
  refine zj_iload 59 1 X kd_A_sum_57 rfl rfl ?_
  refine zj_ixor 60 X kd_A_sum_59 rfl ?_
  refine zj_iload_n 61 4 X kd_A_sum_60 rfl rfl rfl ?_
  refine zj_iload 63 1 X kd_A_sum_61 rfl rfl ?_
  refine zj_ixor 64 X kd_A_sum_63 rfl ?_
  refine zj_iand 65 X kd_A_sum_64 rfl ?_
  refine zj_iload_n 66 5 X kd_A_sum_65 rfl rfl rfl ?_
  refine mc_A_25 69 X kd_A_sum_66 (Nat.le_of_ble_eq_true rfl) (Nat.le_of_ble_eq_true rfl) (Nat.le_of_ble_eq_true rfl) rfl (fun p8 => ?_)
  refine zj_iand 70 X kd_A_sum_69 rfl ?_
  refine zj_if_eq 77 73 X kd_A_sum_70 rfl rfl (fun _ => ?_) (fun _ => ?_)
  · refine zj_iconst 78 0 X kd_A_sum_77 ki_0 rfl ?_
    refine zj_loc [1] (L2 := [(4, .int v2)]) rfl ?_
    exact j_A_sum_78 X p8.2 v2 0 2
  · refine zj_iconst 74 1 X kd_A_sum_73 ki_1 rfl ?_
    refine zj_goto 78 X kd_A_sum_74 rfl ?_
    refine zj_loc [1] (L2 := [(4, .int v2)]) rfl ?_
    exact j_A_sum_78 X p8.2 v2 1 2
theorem c_A_sum {l : Launch} {P : ZP} (hV : ZVok (zcV P)) (s0 : ZS) (x1 : Int32) (x2 : Int32) (x3 : Int32) {z : Int32 × ZS} (h : f_A_sum s0 x1 x2 x3 = some z) : zMi l y_A_sum b_A_sum 6 (some .int) 2 44 (zcV P) s0 [.ref (P.1 9), .int x1, .int x2, .int x3] z :=
  zMi_of (by decide +kernel) rfl rfl (Nat.le_of_ble_eq_true rfl) hV (fun _ X => j_A_sum X s0 x1 x2 x3) h
theorem kc_P_186 : zCV "FrameMachine$Processor" 186 y_A_sum b_A_sum 6 (some .int) 3 := ⟨⟨kw_646, kw_647, kw_648, kw_10, kw_649⟩, by decide +kernel, by decide +kernel, by decide +kernel⟩
theorem mc_P_186 {ρ : Type} {E : ZE} {P : ZP} {A : Nat → Prop} {cc : ByteArray} {nL : Nat} {ret : Option FieldType} {fr lo : Nat} {F : ρ → State → Prop} {pc : Nat} {L : List (Nat × Value)} {rest : List Value} {σ : ZS} {x1 : Int32} {x2 : Int32} {x3 : Int32} {K : Int32 × ZS → Option ρ} (q : Nat) (X : ZX E (zcV P) A "FrameMachine$Processor" cc nL ret fr lo) (d : decode cc pc = .ok (.invokevirtual 186, 3)) (hfr : 2 + 1 ≤ fr) (hlo : 8 + (6 + 11) + 44 ≤ lo) (hr : (rest.map fun v => v.category).sum ≤ 8) (hq : pc + 3 = q) (kk : ∀ p : Int32 × ZS, ZJ E (zcV P) A nL F q L (.int p.1 :: rest) p.2 (K p)) : ZJ E (zcV P) A nL F pc L (.int x3 :: .int x2 :: .int x1 :: .ref (P.1 9) :: rest) σ ((f_A_sum σ x1 x2 x3).bind K) :=
  zj_cVi q 9 9 (As := [.int x1, .int x2, .int x3]) (rest := rest) X kc_P_186 hfr hlo (fun p h => c_A_sum (zx_v X) σ x1 x2 x3 h) rfl rfl rfl hr d hq kk
-- FrameMachine$Arithmetic.compare(III)I
theorem kd_A_compare_0 : decode b_A_compare 0 = .ok (.iload_n 3, 1) := by decide +kernel
theorem kd_A_compare_1 : decode b_A_compare 1 = .ok (.invokestatic 29, 3) := by decide +kernel
theorem kd_A_compare_4 : decode b_A_compare 4 = .ok (.istore 4, 2) := by decide +kernel
theorem kd_A_compare_6 : decode b_A_compare 6 = .ok (.iload_n 1, 1) := by decide +kernel
theorem kd_A_compare_7 : decode b_A_compare 7 = .ok (.iload_n 2, 1) := by decide +kernel
theorem kd_A_compare_8 : decode b_A_compare 8 = .ok (.isub, 1) := by decide +kernel
theorem kd_A_compare_9 : decode b_A_compare 9 = .ok (.iload 4, 2) := by decide +kernel
theorem kd_A_compare_11 : decode b_A_compare 11 = .ok (.iand, 1) := by decide +kernel
theorem kd_A_compare_12 : decode b_A_compare 12 = .ok (.istore 5, 2) := by decide +kernel
theorem kd_A_compare_14 : decode b_A_compare 14 = .ok (.aload_n 0, 1) := by decide +kernel
theorem kd_A_compare_15 : decode b_A_compare 15 = .ok (.iload 5, 2) := by decide +kernel
theorem kd_A_compare_17 : decode b_A_compare 17 = .ok (.iload_n 3, 1) := by decide +kernel
theorem kd_A_compare_18 : decode b_A_compare 18 = .ok (.invokevirtual 15, 3) := by decide +kernel
theorem kd_A_compare_21 : decode b_A_compare 21 = .ok (.aload_n 0, 1) := by decide +kernel
theorem kd_A_compare_22 : decode b_A_compare 22 = .ok (.getfield 9, 3) := by decide +kernel
theorem kd_A_compare_25 : decode b_A_compare 25 = .ok (.iconst 1, 1) := by decide +kernel
theorem kd_A_compare_26 : decode b_A_compare 26 = .ok (.iload_n 1, 1) := by decide +kernel
theorem kd_A_compare_27 : decode b_A_compare 27 = .ok (.iload 4, 2) := by decide +kernel
theorem kd_A_compare_29 : decode b_A_compare 29 = .ok (.iand, 1) := by decide +kernel
theorem kd_A_compare_30 : decode b_A_compare 30 = .ok (.iload_n 2, 1) := by decide +kernel
theorem kd_A_compare_31 : decode b_A_compare 31 = .ok (.iload 4, 2) := by decide +kernel
theorem kd_A_compare_33 : decode b_A_compare 33 = .ok (.iand, 1) := by decide +kernel
theorem kd_A_compare_34 : decode b_A_compare 34 = .ok (.invokestatic 32, 3) := by decide +kernel
theorem kd_A_compare_37 : decode b_A_compare 37 = .ok (.invokevirtual 19, 3) := by decide +kernel
theorem kd_A_compare_40 : decode b_A_compare 40 = .ok (.aload_n 0, 1) := by decide +kernel
theorem kd_A_compare_41 : decode b_A_compare 41 = .ok (.getfield 9, 3) := by decide +kernel
theorem kd_A_compare_44 : decode b_A_compare 44 = .ok (.iconst 2, 1) := by decide +kernel
theorem kd_A_compare_45 : decode b_A_compare 45 = .ok (.iload_n 1, 1) := by decide +kernel
theorem kd_A_compare_46 : decode b_A_compare 46 = .ok (.iload_n 2, 1) := by decide +kernel
theorem kd_A_compare_47 : decode b_A_compare 47 = .ok (.ixor, 1) := by decide +kernel
theorem kd_A_compare_48 : decode b_A_compare 48 = .ok (.iload_n 1, 1) := by decide +kernel
theorem kd_A_compare_49 : decode b_A_compare 49 = .ok (.iload 5, 2) := by decide +kernel
theorem kd_A_compare_51 : decode b_A_compare 51 = .ok (.ixor, 1) := by decide +kernel
theorem kd_A_compare_52 : decode b_A_compare 52 = .ok (.iand, 1) := by decide +kernel
theorem kd_A_compare_53 : decode b_A_compare 53 = .ok (.iload_n 3, 1) := by decide +kernel
theorem kd_A_compare_54 : decode b_A_compare 54 = .ok (.invokestatic 25, 3) := by decide +kernel
theorem kd_A_compare_57 : decode b_A_compare 57 = .ok (.iand, 1) := by decide +kernel
theorem kd_A_compare_58 : decode b_A_compare 58 = .ok (.ifCond .eq 7, 3) := by decide +kernel
theorem kd_A_compare_61 : decode b_A_compare 61 = .ok (.iconst 1, 1) := by decide +kernel
theorem kd_A_compare_62 : decode b_A_compare 62 = .ok (.goto 4, 3) := by decide +kernel
theorem kd_A_compare_65 : decode b_A_compare 65 = .ok (.iconst 0, 1) := by decide +kernel
theorem kd_A_compare_66 : decode b_A_compare 66 = .ok (.invokevirtual 19, 3) := by decide +kernel
theorem kd_A_compare_69 : decode b_A_compare 69 = .ok (.iload 5, 2) := by decide +kernel
theorem kd_A_compare_71 : decode b_A_compare 71 = .ok (.ireturn, 1) := by decide +kernel
noncomputable def f_A_compare_66 (s0 : ZS) (l5 : Int32) (t0 : Int32) (t1 : Int32) : Option (Int32 × ZS) :=
  (f_G_mark s0 t1 t0).bind fun s7 =>
  some (l5, s7)
noncomputable def f_A_compare (s0 : ZS) (x1 : Int32) (x2 : Int32) (x3 : Int32) : Option (Int32 × ZS) :=
  (f_F_maskOf s0 x3).bind fun p1 =>
  zs_nm ((x1 - x2) &&& p1.1) fun v2 =>
  (f_A_markSign p1.2 v2 x3).bind fun s3 =>
  (f_A_isBelow s3 (x1 &&& p1.1) (x2 &&& p1.1)).bind fun p4 =>
  (f_G_mark p4.2 1 p4.1).bind fun s5 =>
  (f_F_topBitOf s5 x3).bind fun p6 =>
  if (((x1 ^^^ x2) &&& (x1 ^^^ v2)) &&& p6.1) = 0 then
    f_A_compare_66 p6.2 v2 0 2
  else
    f_A_compare_66 p6.2 v2 1 2
theorem j_A_compare_66 {P : ZP} {E : ZE} {A : Nat → Prop} (X : ZX E (zcV P) A "FrameMachine$Arithmetic" b_A_compare 6 (some .int) 2 44) (s0 : ZS) (l5 : Int32) (t0 : Int32) (t1 : Int32) : ZJ E (zcV P) A 6 (zFi E (zcV P) A) 66 [(5, .int l5)] [.int t0, .int t1, .ref (P.1 3)] s0 (f_A_compare_66 s0 l5 t0 t1) := by
  unfold f_A_compare_66
  refine mc_A_19 69 X kd_A_compare_66 (Nat.le_of_ble_eq_true rfl) (Nat.le_of_ble_eq_true rfl) (Nat.le_of_ble_eq_true rfl) rfl (fun s7 => ?_)
  refine zj_iload 71 0 X kd_A_compare_69 rfl rfl ?_
  exact zj_iret X kd_A_compare_71
theorem j_A_compare {P : ZP} {E : ZE} {A : Nat → Prop} (X : ZX E (zcV P) A "FrameMachine$Arithmetic" b_A_compare 6 (some .int) 2 44) (s0 : ZS) (x1 : Int32) (x2 : Int32) (x3 : Int32) : ZJ E (zcV P) A 6 (zFi E (zcV P) A) 0 [(0, .ref (P.1 9)), (1, .int x1), (2, .int x2), (3, .int x3)] [] s0 (f_A_compare s0 x1 x2 x3) := by
  unfold f_A_compare
  refine zj_iload_n 1 3 X kd_A_compare_0 rfl rfl rfl ?_
  refine mc_A_29 4 X kd_A_compare_1 (Nat.le_of_ble_eq_true rfl) (Nat.le_of_ble_eq_true rfl) (Nat.le_of_ble_eq_true rfl) rfl (fun p1 => ?_)
  refine zj_istore 6 [(4, .int p1.1), (0, .ref (P.1 9)), (1, .int x1), (2, .int x2), (3, .int x3)] X kd_A_compare_4 (Nat.le_of_ble_eq_true rfl) rfl rfl ?_
  refine zj_iload_n 7 2 X kd_A_compare_6 rfl rfl rfl ?_
  refine zj_iload_n 8 3 X kd_A_compare_7 rfl rfl rfl ?_
  refine zj_isub 9 X kd_A_compare_8 rfl ?_
  refine zj_iload 11 0 X kd_A_compare_9 rfl rfl ?_
  refine zj_iand 12 X kd_A_compare_11 rfl ?_
  refine zj_nmi (fun v2 => ?_)
  refine zj_istore 14 [(5, .int v2), (4, .int p1.1), (0, .ref (P.1 9)), (1, .int x1), (2, .int x2), (3, .int x3)] X kd_A_compare_12 (Nat.le_of_ble_eq_true rfl) rfl rfl ?_
  refine zj_aload_n 15 2 X kd_A_compare_14 rfl rfl rfl ?_
  refine zj_iload 17 0 X kd_A_compare_15 rfl rfl ?_
  refine zj_iload_n 18 5 X kd_A_compare_17 rfl rfl rfl ?_
  refine mc_A_15 21 X kd_A_compare_18 (Nat.le_of_ble_eq_true rfl) (Nat.le_of_ble_eq_true rfl) (Nat.le_of_ble_eq_true rfl) rfl (fun s3 => ?_)
  refine zj_aload_n 22 2 X kd_A_compare_21 rfl rfl rfl ?_
  refine gf_A_9 25 X kd_A_compare_22 rfl ?_
  refine zj_iconst 26 1 X kd_A_compare_25 ki_1 rfl ?_
  refine zj_iload_n 27 3 X kd_A_compare_26 rfl rfl rfl ?_
  refine zj_iload 29 1 X kd_A_compare_27 rfl rfl ?_
  refine zj_iand 30 X kd_A_compare_29 rfl ?_
  refine zj_iload_n 31 4 X kd_A_compare_30 rfl rfl rfl ?_
  refine zj_iload 33 1 X kd_A_compare_31 rfl rfl ?_
  refine zj_iand 34 X kd_A_compare_33 rfl ?_
  refine mc_A_32 37 X kd_A_compare_34 (Nat.le_of_ble_eq_true rfl) (Nat.le_of_ble_eq_true rfl) (Nat.le_of_ble_eq_true rfl) rfl (fun p4 => ?_)
  refine mc_A_19 40 X kd_A_compare_37 (Nat.le_of_ble_eq_true rfl) (Nat.le_of_ble_eq_true rfl) (Nat.le_of_ble_eq_true rfl) rfl (fun s5 => ?_)
  refine zj_aload_n 41 2 X kd_A_compare_40 rfl rfl rfl ?_
  refine gf_A_9 44 X kd_A_compare_41 rfl ?_
  refine zj_iconst 45 2 X kd_A_compare_44 ki_2 rfl ?_
  refine zj_iload_n 46 3 X kd_A_compare_45 rfl rfl rfl ?_
  refine zj_iload_n 47 4 X kd_A_compare_46 rfl rfl rfl ?_
  refine zj_ixor 48 X kd_A_compare_47 rfl ?_
  refine zj_iload_n 49 3 X kd_A_compare_48 rfl rfl rfl ?_
  refine zj_iload 51 0 X kd_A_compare_49 rfl rfl ?_
  refine zj_ixor 52 X kd_A_compare_51 rfl ?_
  refine zj_iand 53 X kd_A_compare_52 rfl ?_
  refine zj_iload_n 54 5 X kd_A_compare_53 rfl rfl rfl ?_
  refine mc_A_25 57 X kd_A_compare_54 (Nat.le_of_ble_eq_true rfl) (Nat.le_of_ble_eq_true rfl) (Nat.le_of_ble_eq_true rfl) rfl (fun p6 => ?_)
  refine zj_iand 58 X kd_A_compare_57 rfl ?_
  refine zj_if_eq 65 61 X kd_A_compare_58 rfl rfl (fun _ => ?_) (fun _ => ?_)
  · refine zj_iconst 66 0 X kd_A_compare_65 ki_0 rfl ?_
    refine zj_loc [0] (L2 := [(5, .int v2)]) rfl ?_
    exact j_A_compare_66 X p6.2 v2 0 2
  · refine zj_iconst 62 1 X kd_A_compare_61 ki_1 rfl ?_
    refine zj_goto 66 X kd_A_compare_62 rfl ?_
    refine zj_loc [0] (L2 := [(5, .int v2)]) rfl ?_
    exact j_A_compare_66 X p6.2 v2 1 2
theorem c_A_compare {l : Launch} {P : ZP} (hV : ZVok (zcV P)) (s0 : ZS) (x1 : Int32) (x2 : Int32) (x3 : Int32) {z : Int32 × ZS} (h : f_A_compare s0 x1 x2 x3 = some z) : zMi l y_A_compare b_A_compare 6 (some .int) 2 44 (zcV P) s0 [.ref (P.1 9), .int x1, .int x2, .int x3] z :=
  zMi_of (by decide +kernel) rfl rfl (Nat.le_of_ble_eq_true rfl) hV (fun _ X => j_A_compare X s0 x1 x2 x3) h
theorem kc_A_36 : zCV "FrameMachine$Arithmetic" 36 y_A_compare b_A_compare 6 (some .int) 3 := ⟨⟨kw_658, kw_659, kw_660, kw_10, kw_661⟩, by decide +kernel, by decide +kernel, by decide +kernel⟩
theorem mc_A_36 {ρ : Type} {E : ZE} {P : ZP} {A : Nat → Prop} {cc : ByteArray} {nL : Nat} {ret : Option FieldType} {fr lo : Nat} {F : ρ → State → Prop} {pc : Nat} {L : List (Nat × Value)} {rest : List Value} {σ : ZS} {x1 : Int32} {x2 : Int32} {x3 : Int32} {K : Int32 × ZS → Option ρ} (q : Nat) (X : ZX E (zcV P) A "FrameMachine$Arithmetic" cc nL ret fr lo) (d : decode cc pc = .ok (.invokevirtual 36, 3)) (hfr : 2 + 1 ≤ fr) (hlo : 8 + (6 + 11) + 44 ≤ lo) (hr : (rest.map fun v => v.category).sum ≤ 8) (hq : pc + 3 = q) (kk : ∀ p : Int32 × ZS, ZJ E (zcV P) A nL F q L (.int p.1 :: rest) p.2 (K p)) : ZJ E (zcV P) A nL F pc L (.int x3 :: .int x2 :: .int x1 :: .ref (P.1 9) :: rest) σ ((f_A_compare σ x1 x2 x3).bind K) :=
  zj_cVi q 9 9 (As := [.int x1, .int x2, .int x3]) (rest := rest) X kc_A_36 hfr hlo (fun p h => c_A_compare (zx_v X) σ x1 x2 x3 h) rfl rfl rfl hr d hq kk
theorem kc_P_196 : zCV "FrameMachine$Processor" 196 y_A_compare b_A_compare 6 (some .int) 3 := ⟨⟨kw_663, kw_659, kw_660, kw_10, kw_661⟩, by decide +kernel, by decide +kernel, by decide +kernel⟩
theorem mc_P_196 {ρ : Type} {E : ZE} {P : ZP} {A : Nat → Prop} {cc : ByteArray} {nL : Nat} {ret : Option FieldType} {fr lo : Nat} {F : ρ → State → Prop} {pc : Nat} {L : List (Nat × Value)} {rest : List Value} {σ : ZS} {x1 : Int32} {x2 : Int32} {x3 : Int32} {K : Int32 × ZS → Option ρ} (q : Nat) (X : ZX E (zcV P) A "FrameMachine$Processor" cc nL ret fr lo) (d : decode cc pc = .ok (.invokevirtual 196, 3)) (hfr : 2 + 1 ≤ fr) (hlo : 8 + (6 + 11) + 44 ≤ lo) (hr : (rest.map fun v => v.category).sum ≤ 8) (hq : pc + 3 = q) (kk : ∀ p : Int32 × ZS, ZJ E (zcV P) A nL F q L (.int p.1 :: rest) p.2 (K p)) : ZJ E (zcV P) A nL F pc L (.int x3 :: .int x2 :: .int x1 :: .ref (P.1 9) :: rest) σ ((f_A_compare σ x1 x2 x3).bind K) :=
  zj_cVi q 9 9 (As := [.int x1, .int x2, .int x3]) (rest := rest) X kc_P_196 hfr hlo (fun p h => c_A_compare (zx_v X) σ x1 x2 x3 h) rfl rfl rfl hr d hq kk
-- FrameMachine$Arithmetic.difference(III)I
theorem kd_A_difference_0 : decode b_A_difference 0 = .ok (.aload_n 0, 1) := by decide +kernel
theorem kd_A_difference_1 : decode b_A_difference 1 = .ok (.iload_n 1, 1) := by decide +kernel
theorem kd_A_difference_2 : decode b_A_difference 2 = .ok (.iload_n 2, 1) := by decide +kernel
theorem kd_A_difference_3 : decode b_A_difference 3 = .ok (.iload_n 3, 1) := by decide +kernel
theorem kd_A_difference_4 : decode b_A_difference 4 = .ok (.invokevirtual 36, 3) := by decide +kernel
theorem kd_A_difference_7 : decode b_A_difference 7 = .ok (.istore 4, 2) := by decide +kernel
theorem kd_A_difference_9 : decode b_A_difference 9 = .ok (.aload_n 0, 1) := by decide +kernel
theorem kd_A_difference_10 : decode b_A_difference 10 = .ok (.getfield 9, 3) := by decide +kernel
theorem kd_A_difference_13 : decode b_A_difference 13 = .ok (.bipush 16, 2) := by decide +kernel
theorem kd_A_difference_15 : decode b_A_difference 15 = .ok (.aload_n 0, 1) := by decide +kernel
theorem kd_A_difference_16 : decode b_A_difference 16 = .ok (.getfield 9, 3) := by decide +kernel
theorem kd_A_difference_19 : decode b_A_difference 19 = .ok (.iconst 1, 1) := by decide +kernel
theorem kd_A_difference_20 : decode b_A_difference 20 = .ok (.invokevirtual 40, 3) := by decide +kernel
theorem kd_A_difference_23 : decode b_A_difference 23 = .ok (.invokevirtual 19, 3) := by decide +kernel
theorem kd_A_difference_26 : decode b_A_difference 26 = .ok (.iload 4, 2) := by decide +kernel
theorem kd_A_difference_28 : decode b_A_difference 28 = .ok (.ireturn, 1) := by decide +kernel
noncomputable def f_A_difference (s0 : ZS) (x1 : Int32) (x2 : Int32) (x3 : Int32) : Option (Int32 × ZS) :=
  (f_A_compare s0 x1 x2 x3).bind fun p1 =>
  (f_G_has p1.2 1).bind fun p2 =>
  (f_G_mark p2.2 16 p2.1).bind fun s3 =>
  some (p1.1, s3)
theorem j_A_difference {P : ZP} {E : ZE} {A : Nat → Prop} (X : ZX E (zcV P) A "FrameMachine$Arithmetic" b_A_difference 5 (some .int) 3 69) (s0 : ZS) (x1 : Int32) (x2 : Int32) (x3 : Int32) : ZJ E (zcV P) A 5 (zFi E (zcV P) A) 0 [(0, .ref (P.1 9)), (1, .int x1), (2, .int x2), (3, .int x3)] [] s0 (f_A_difference s0 x1 x2 x3) := by
  unfold f_A_difference
  refine zj_aload_n 1 0 X kd_A_difference_0 rfl rfl rfl ?_
  refine zj_iload_n 2 1 X kd_A_difference_1 rfl rfl rfl ?_
  refine zj_iload_n 3 2 X kd_A_difference_2 rfl rfl rfl ?_
  refine zj_iload_n 4 3 X kd_A_difference_3 rfl rfl rfl ?_
  refine mc_A_36 7 X kd_A_difference_4 (Nat.le_of_ble_eq_true rfl) (Nat.le_of_ble_eq_true rfl) (Nat.le_of_ble_eq_true rfl) rfl (fun p1 => ?_)
  refine zj_istore 9 [(4, .int p1.1), (0, .ref (P.1 9)), (1, .int x1), (2, .int x2), (3, .int x3)] X kd_A_difference_7 (Nat.le_of_ble_eq_true rfl) rfl rfl ?_
  refine zj_aload_n 10 1 X kd_A_difference_9 rfl rfl rfl ?_
  refine gf_A_9 13 X kd_A_difference_10 rfl ?_
  refine zj_bipush 15 16 X kd_A_difference_13 kb_16 rfl ?_
  refine zj_aload_n 16 1 X kd_A_difference_15 rfl rfl rfl ?_
  refine gf_A_9 19 X kd_A_difference_16 rfl ?_
  refine zj_iconst 20 1 X kd_A_difference_19 ki_1 rfl ?_
  refine mc_A_40 23 X kd_A_difference_20 (Nat.le_of_ble_eq_true rfl) (Nat.le_of_ble_eq_true rfl) (Nat.le_of_ble_eq_true rfl) rfl (fun p2 => ?_)
  refine mc_A_19 26 X kd_A_difference_23 (Nat.le_of_ble_eq_true rfl) (Nat.le_of_ble_eq_true rfl) (Nat.le_of_ble_eq_true rfl) rfl (fun s3 => ?_)
  refine zj_iload 28 0 X kd_A_difference_26 rfl rfl ?_
  exact zj_iret X kd_A_difference_28
theorem c_A_difference {l : Launch} {P : ZP} (hV : ZVok (zcV P)) (s0 : ZS) (x1 : Int32) (x2 : Int32) (x3 : Int32) {z : Int32 × ZS} (h : f_A_difference s0 x1 x2 x3 = some z) : zMi l y_A_difference b_A_difference 5 (some .int) 3 69 (zcV P) s0 [.ref (P.1 9), .int x1, .int x2, .int x3] z :=
  zMi_of (by decide +kernel) rfl rfl (Nat.le_of_ble_eq_true rfl) hV (fun _ X => j_A_difference X s0 x1 x2 x3) h
theorem kc_P_193 : zCV "FrameMachine$Processor" 193 y_A_difference b_A_difference 5 (some .int) 3 := ⟨⟨kw_654, kw_655, kw_656, kw_10, kw_657⟩, by decide +kernel, by decide +kernel, by decide +kernel⟩
theorem mc_P_193 {ρ : Type} {E : ZE} {P : ZP} {A : Nat → Prop} {cc : ByteArray} {nL : Nat} {ret : Option FieldType} {fr lo : Nat} {F : ρ → State → Prop} {pc : Nat} {L : List (Nat × Value)} {rest : List Value} {σ : ZS} {x1 : Int32} {x2 : Int32} {x3 : Int32} {K : Int32 × ZS → Option ρ} (q : Nat) (X : ZX E (zcV P) A "FrameMachine$Processor" cc nL ret fr lo) (d : decode cc pc = .ok (.invokevirtual 193, 3)) (hfr : 3 + 1 ≤ fr) (hlo : 8 + (5 + 11) + 69 ≤ lo) (hr : (rest.map fun v => v.category).sum ≤ 8) (hq : pc + 3 = q) (kk : ∀ p : Int32 × ZS, ZJ E (zcV P) A nL F q L (.int p.1 :: rest) p.2 (K p)) : ZJ E (zcV P) A nL F pc L (.int x3 :: .int x2 :: .int x1 :: .ref (P.1 9) :: rest) σ ((f_A_difference σ x1 x2 x3).bind K) :=
  zj_cVi q 9 9 (As := [.int x1, .int x2, .int x3]) (rest := rest) X kc_P_193 hfr hlo (fun p h => c_A_difference (zx_v X) σ x1 x2 x3 h) rfl rfl rfl hr d hq kk
-- FrameMachine$Arithmetic.onceLeft(IIZ)I
theorem kd_A_onceLeft_0 : decode b_A_onceLeft 0 = .ok (.iload_n 1, 1) := by decide +kernel
theorem kd_A_onceLeft_1 : decode b_A_onceLeft 1 = .ok (.iconst 1, 1) := by decide +kernel
theorem kd_A_onceLeft_2 : decode b_A_onceLeft 2 = .ok (.ishl, 1) := by decide +kernel
theorem kd_A_onceLeft_3 : decode b_A_onceLeft 3 = .ok (.iload_n 3, 1) := by decide +kernel
theorem kd_A_onceLeft_4 : decode b_A_onceLeft 4 = .ok (.ifCond .eq 7, 3) := by decide +kernel
theorem kd_A_onceLeft_7 : decode b_A_onceLeft 7 = .ok (.iconst 1, 1) := by decide +kernel
theorem kd_A_onceLeft_8 : decode b_A_onceLeft 8 = .ok (.goto 4, 3) := by decide +kernel
theorem kd_A_onceLeft_11 : decode b_A_onceLeft 11 = .ok (.iconst 0, 1) := by decide +kernel
theorem kd_A_onceLeft_12 : decode b_A_onceLeft 12 = .ok (.ior, 1) := by decide +kernel
theorem kd_A_onceLeft_13 : decode b_A_onceLeft 13 = .ok (.iload_n 2, 1) := by decide +kernel
theorem kd_A_onceLeft_14 : decode b_A_onceLeft 14 = .ok (.invokestatic 29, 3) := by decide +kernel
theorem kd_A_onceLeft_17 : decode b_A_onceLeft 17 = .ok (.iand, 1) := by decide +kernel
theorem kd_A_onceLeft_18 : decode b_A_onceLeft 18 = .ok (.ireturn, 1) := by decide +kernel
noncomputable def f_A_onceLeft_12 (s0 : ZS) (l2 : Int32) (t0 : Int32) (t1 : Int32) : Option (Int32 × ZS) :=
  (f_F_maskOf s0 l2).bind fun p1 =>
  some ((t1 ||| t0) &&& p1.1, p1.2)
noncomputable def f_A_onceLeft (s0 : ZS) (x1 : Int32) (x2 : Int32) (x3 : Int32) : Option (Int32 × ZS) :=
  if x3 = 0 then
    f_A_onceLeft_12 s0 x2 0 ((zo_shl x1 1))
  else
    f_A_onceLeft_12 s0 x2 1 ((zo_shl x1 1))
theorem j_A_onceLeft_12 {P : ZP} {E : ZE} {A : Nat → Prop} (X : ZX E (zcV P) A "FrameMachine$Arithmetic" b_A_onceLeft 4 (some .int) 1 20) (s0 : ZS) (l2 : Int32) (t0 : Int32) (t1 : Int32) : ZJ E (zcV P) A 4 (zFi E (zcV P) A) 12 [(2, .int l2)] [.int t0, .int t1] s0 (f_A_onceLeft_12 s0 l2 t0 t1) := by
  unfold f_A_onceLeft_12
  refine zj_ior 13 X kd_A_onceLeft_12 rfl ?_
  refine zj_iload_n 14 0 X kd_A_onceLeft_13 rfl rfl rfl ?_
  refine mc_A_29 17 X kd_A_onceLeft_14 (Nat.le_of_ble_eq_true rfl) (Nat.le_of_ble_eq_true rfl) (Nat.le_of_ble_eq_true rfl) rfl (fun p1 => ?_)
  refine zj_iand 18 X kd_A_onceLeft_17 rfl ?_
  exact zj_iret X kd_A_onceLeft_18
theorem j_A_onceLeft {P : ZP} {E : ZE} {A : Nat → Prop} (X : ZX E (zcV P) A "FrameMachine$Arithmetic" b_A_onceLeft 4 (some .int) 1 20) (s0 : ZS) (x1 : Int32) (x2 : Int32) (x3 : Int32) : ZJ E (zcV P) A 4 (zFi E (zcV P) A) 0 [(0, .ref (P.1 9)), (1, .int x1), (2, .int x2), (3, .int x3)] [] s0 (f_A_onceLeft s0 x1 x2 x3) := by
  unfold f_A_onceLeft
  refine zj_iload_n 1 1 X kd_A_onceLeft_0 rfl rfl rfl ?_
  refine zj_iconst 2 1 X kd_A_onceLeft_1 ki_1 rfl ?_
  refine zj_ishl 3 X kd_A_onceLeft_2 rfl ?_
  refine zj_iload_n 4 3 X kd_A_onceLeft_3 rfl rfl rfl ?_
  refine zj_if_eq 11 7 X kd_A_onceLeft_4 rfl rfl (fun _ => ?_) (fun _ => ?_)
  · refine zj_iconst 12 0 X kd_A_onceLeft_11 ki_0 rfl ?_
    refine zj_loc [2] (L2 := [(2, .int x2)]) rfl ?_
    exact j_A_onceLeft_12 X s0 x2 0 ((zo_shl x1 1))
  · refine zj_iconst 8 1 X kd_A_onceLeft_7 ki_1 rfl ?_
    refine zj_goto 12 X kd_A_onceLeft_8 rfl ?_
    refine zj_loc [2] (L2 := [(2, .int x2)]) rfl ?_
    exact j_A_onceLeft_12 X s0 x2 1 ((zo_shl x1 1))
theorem c_A_onceLeft {l : Launch} {P : ZP} (hV : ZVok (zcV P)) (s0 : ZS) (x1 : Int32) (x2 : Int32) (x3 : Int32) {z : Int32 × ZS} (h : f_A_onceLeft s0 x1 x2 x3 = some z) : zMi l y_A_onceLeft b_A_onceLeft 4 (some .int) 1 20 (zcV P) s0 [.ref (P.1 9), .int x1, .int x2, .int x3] z :=
  zMi_of (by decide +kernel) rfl rfl (Nat.le_of_ble_eq_true rfl) hV (fun _ X => j_A_onceLeft X s0 x1 x2 x3) h
theorem kc_A_45 : zCV "FrameMachine$Arithmetic" 45 y_A_onceLeft b_A_onceLeft 4 (some .int) 3 := ⟨⟨kw_672, kw_674, ksel_17, kw_10, kw_675⟩, by decide +kernel, by decide +kernel, by decide +kernel⟩
theorem mc_A_45 {ρ : Type} {E : ZE} {P : ZP} {A : Nat → Prop} {cc : ByteArray} {nL : Nat} {ret : Option FieldType} {fr lo : Nat} {F : ρ → State → Prop} {pc : Nat} {L : List (Nat × Value)} {rest : List Value} {σ : ZS} {x1 : Int32} {x2 : Int32} {x3 : Int32} {K : Int32 × ZS → Option ρ} (q : Nat) (X : ZX E (zcV P) A "FrameMachine$Arithmetic" cc nL ret fr lo) (d : decode cc pc = .ok (.invokevirtual 45, 3)) (hfr : 1 + 1 ≤ fr) (hlo : 8 + (4 + 11) + 20 ≤ lo) (hr : (rest.map fun v => v.category).sum ≤ 8) (hq : pc + 3 = q) (kk : ∀ p : Int32 × ZS, ZJ E (zcV P) A nL F q L (.int p.1 :: rest) p.2 (K p)) : ZJ E (zcV P) A nL F pc L (.int x3 :: .int x2 :: .int x1 :: .ref (P.1 9) :: rest) σ ((f_A_onceLeft σ x1 x2 x3).bind K) :=
  zj_cVi q 9 9 (As := [.int x1, .int x2, .int x3]) (rest := rest) X kc_A_45 hfr hlo (fun p h => c_A_onceLeft (zx_v X) σ x1 x2 x3 h) rfl rfl rfl hr d hq kk
-- FrameMachine$Arithmetic.shift(IIII)I
theorem kd_A_shift_0 : decode b_A_shift 0 = .ok (.iload_n 2, 1) := by decide +kernel
theorem kd_A_shift_1 : decode b_A_shift 1 = .ok (.invokestatic 25, 3) := by decide +kernel
theorem kd_A_shift_4 : decode b_A_shift 4 = .ok (.istore 5, 2) := by decide +kernel
theorem kd_A_shift_6 : decode b_A_shift 6 = .ok (.iload_n 3, 1) := by decide +kernel
theorem kd_A_shift_7 : decode b_A_shift 7 = .ok (.iconst 2, 1) := by decide +kernel
theorem kd_A_shift_8 : decode b_A_shift 8 = .ok (.irem, 1) := by decide +kernel
theorem kd_A_shift_9 : decode b_A_shift 9 = .ok (.ifCond .ne 7, 3) := by decide +kernel
theorem kd_A_shift_12 : decode b_A_shift 12 = .ok (.iconst 1, 1) := by decide +kernel
theorem kd_A_shift_13 : decode b_A_shift 13 = .ok (.goto 4, 3) := by decide +kernel
theorem kd_A_shift_16 : decode b_A_shift 16 = .ok (.iconst 0, 1) := by decide +kernel
theorem kd_A_shift_17 : decode b_A_shift 17 = .ok (.istore 6, 2) := by decide +kernel
theorem kd_A_shift_19 : decode b_A_shift 19 = .ok (.iload_n 1, 1) := by decide +kernel
theorem kd_A_shift_20 : decode b_A_shift 20 = .ok (.iload_n 2, 1) := by decide +kernel
theorem kd_A_shift_21 : decode b_A_shift 21 = .ok (.invokestatic 29, 3) := by decide +kernel
theorem kd_A_shift_24 : decode b_A_shift 24 = .ok (.iand, 1) := by decide +kernel
theorem kd_A_shift_25 : decode b_A_shift 25 = .ok (.istore 7, 2) := by decide +kernel
theorem kd_A_shift_27 : decode b_A_shift 27 = .ok (.iconst 0, 1) := by decide +kernel
theorem kd_A_shift_28 : decode b_A_shift 28 = .ok (.istore 8, 2) := by decide +kernel
theorem kd_A_shift_30 : decode b_A_shift 30 = .ok (.iconst 0, 1) := by decide +kernel
theorem kd_A_shift_31 : decode b_A_shift 31 = .ok (.istore 9, 2) := by decide +kernel
theorem kd_A_shift_33 : decode b_A_shift 33 = .ok (.iconst 0, 1) := by decide +kernel
theorem kd_A_shift_34 : decode b_A_shift 34 = .ok (.istore 10, 2) := by decide +kernel
theorem kd_A_shift_36 : decode b_A_shift 36 = .ok (.iload 10, 2) := by decide +kernel
theorem kd_A_shift_38 : decode b_A_shift 38 = .ok (.iload 4, 2) := by decide +kernel
theorem kd_A_shift_40 : decode b_A_shift 40 = .ok (.if_icmp .ge 126, 3) := by decide +kernel
theorem kd_A_shift_43 : decode b_A_shift 43 = .ok (.iload 7, 2) := by decide +kernel
theorem kd_A_shift_45 : decode b_A_shift 45 = .ok (.iload 6, 2) := by decide +kernel
theorem kd_A_shift_47 : decode b_A_shift 47 = .ok (.ifCond .eq 8, 3) := by decide +kernel
theorem kd_A_shift_50 : decode b_A_shift 50 = .ok (.iload 5, 2) := by decide +kernel
theorem kd_A_shift_52 : decode b_A_shift 52 = .ok (.goto 4, 3) := by decide +kernel
theorem kd_A_shift_55 : decode b_A_shift 55 = .ok (.iconst 1, 1) := by decide +kernel
theorem kd_A_shift_56 : decode b_A_shift 56 = .ok (.iand, 1) := by decide +kernel
theorem kd_A_shift_57 : decode b_A_shift 57 = .ok (.ifCond .eq 7, 3) := by decide +kernel
theorem kd_A_shift_60 : decode b_A_shift 60 = .ok (.iconst 1, 1) := by decide +kernel
theorem kd_A_shift_61 : decode b_A_shift 61 = .ok (.goto 4, 3) := by decide +kernel
theorem kd_A_shift_64 : decode b_A_shift 64 = .ok (.iconst 0, 1) := by decide +kernel
theorem kd_A_shift_65 : decode b_A_shift 65 = .ok (.istore 8, 2) := by decide +kernel
theorem kd_A_shift_67 : decode b_A_shift 67 = .ok (.iload 6, 2) := by decide +kernel
theorem kd_A_shift_69 : decode b_A_shift 69 = .ok (.ifCond .eq 28, 3) := by decide +kernel
theorem kd_A_shift_72 : decode b_A_shift 72 = .ok (.aload_n 0, 1) := by decide +kernel
theorem kd_A_shift_73 : decode b_A_shift 73 = .ok (.iload 7, 2) := by decide +kernel
theorem kd_A_shift_75 : decode b_A_shift 75 = .ok (.iload_n 2, 1) := by decide +kernel
theorem kd_A_shift_76 : decode b_A_shift 76 = .ok (.iload_n 3, 1) := by decide +kernel
theorem kd_A_shift_77 : decode b_A_shift 77 = .ok (.iconst 4, 1) := by decide +kernel
theorem kd_A_shift_78 : decode b_A_shift 78 = .ok (.if_icmp .ne 12, 3) := by decide +kernel
theorem kd_A_shift_81 : decode b_A_shift 81 = .ok (.iload 8, 2) := by decide +kernel
theorem kd_A_shift_83 : decode b_A_shift 83 = .ok (.ifCond .eq 7, 3) := by decide +kernel
theorem kd_A_shift_86 : decode b_A_shift 86 = .ok (.iconst 1, 1) := by decide +kernel
theorem kd_A_shift_87 : decode b_A_shift 87 = .ok (.goto 4, 3) := by decide +kernel
theorem kd_A_shift_90 : decode b_A_shift 90 = .ok (.iconst 0, 1) := by decide +kernel
theorem kd_A_shift_91 : decode b_A_shift 91 = .ok (.invokevirtual 45, 3) := by decide +kernel
theorem kd_A_shift_94 : decode b_A_shift 94 = .ok (.goto 7, 3) := by decide +kernel
theorem kd_A_shift_97 : decode b_A_shift 97 = .ok (.iload 7, 2) := by decide +kernel
theorem kd_A_shift_99 : decode b_A_shift 99 = .ok (.iconst 1, 1) := by decide +kernel
theorem kd_A_shift_100 : decode b_A_shift 100 = .ok (.iushr, 1) := by decide +kernel
theorem kd_A_shift_101 : decode b_A_shift 101 = .ok (.istore 11, 2) := by decide +kernel
theorem kd_A_shift_103 : decode b_A_shift 103 = .ok (.iload_n 3, 1) := by decide +kernel
theorem kd_A_shift_104 : decode b_A_shift 104 = .ok (.iconst 5, 1) := by decide +kernel
theorem kd_A_shift_105 : decode b_A_shift 105 = .ok (.if_icmp .ne 8, 3) := by decide +kernel
theorem kd_A_shift_108 : decode b_A_shift 108 = .ok (.iload 8, 2) := by decide +kernel
theorem kd_A_shift_110 : decode b_A_shift 110 = .ok (.ifCond .ne 16, 3) := by decide +kernel
theorem kd_A_shift_113 : decode b_A_shift 113 = .ok (.iload_n 3, 1) := by decide +kernel
theorem kd_A_shift_114 : decode b_A_shift 114 = .ok (.iconst 1, 1) := by decide +kernel
theorem kd_A_shift_115 : decode b_A_shift 115 = .ok (.if_icmp .ne 18, 3) := by decide +kernel
theorem kd_A_shift_118 : decode b_A_shift 118 = .ok (.iload 7, 2) := by decide +kernel
theorem kd_A_shift_120 : decode b_A_shift 120 = .ok (.iload 5, 2) := by decide +kernel
theorem kd_A_shift_122 : decode b_A_shift 122 = .ok (.iand, 1) := by decide +kernel
theorem kd_A_shift_123 : decode b_A_shift 123 = .ok (.ifCond .eq 10, 3) := by decide +kernel
theorem kd_A_shift_126 : decode b_A_shift 126 = .ok (.iload 11, 2) := by decide +kernel
theorem kd_A_shift_128 : decode b_A_shift 128 = .ok (.iload 5, 2) := by decide +kernel
theorem kd_A_shift_130 : decode b_A_shift 130 = .ok (.ior, 1) := by decide +kernel
theorem kd_A_shift_131 : decode b_A_shift 131 = .ok (.istore 11, 2) := by decide +kernel
theorem kd_A_shift_133 : decode b_A_shift 133 = .ok (.iload 9, 2) := by decide +kernel
theorem kd_A_shift_135 : decode b_A_shift 135 = .ok (.ifCond .ne 14, 3) := by decide +kernel
theorem kd_A_shift_138 : decode b_A_shift 138 = .ok (.iload 11, 2) := by decide +kernel
theorem kd_A_shift_140 : decode b_A_shift 140 = .ok (.iload 7, 2) := by decide +kernel
theorem kd_A_shift_142 : decode b_A_shift 142 = .ok (.ixor, 1) := by decide +kernel
theorem kd_A_shift_143 : decode b_A_shift 143 = .ok (.iload 5, 2) := by decide +kernel
theorem kd_A_shift_145 : decode b_A_shift 145 = .ok (.iand, 1) := by decide +kernel
theorem kd_A_shift_146 : decode b_A_shift 146 = .ok (.ifCond .eq 7, 3) := by decide +kernel
theorem kd_A_shift_149 : decode b_A_shift 149 = .ok (.iconst 1, 1) := by decide +kernel
theorem kd_A_shift_150 : decode b_A_shift 150 = .ok (.goto 4, 3) := by decide +kernel
theorem kd_A_shift_153 : decode b_A_shift 153 = .ok (.iconst 0, 1) := by decide +kernel
theorem kd_A_shift_154 : decode b_A_shift 154 = .ok (.istore 9, 2) := by decide +kernel
theorem kd_A_shift_156 : decode b_A_shift 156 = .ok (.iload 11, 2) := by decide +kernel
theorem kd_A_shift_158 : decode b_A_shift 158 = .ok (.istore 7, 2) := by decide +kernel
theorem kd_A_shift_160 : decode b_A_shift 160 = .ok (.iinc 10 1, 3) := by decide +kernel
theorem kd_A_shift_163 : decode b_A_shift 163 = .ok (.goto (-127), 3) := by decide +kernel
theorem kd_A_shift_166 : decode b_A_shift 166 = .ok (.aload_n 0, 1) := by decide +kernel
theorem kd_A_shift_167 : decode b_A_shift 167 = .ok (.iload 7, 2) := by decide +kernel
theorem kd_A_shift_169 : decode b_A_shift 169 = .ok (.iload_n 2, 1) := by decide +kernel
theorem kd_A_shift_170 : decode b_A_shift 170 = .ok (.invokevirtual 15, 3) := by decide +kernel
theorem kd_A_shift_173 : decode b_A_shift 173 = .ok (.aload_n 0, 1) := by decide +kernel
theorem kd_A_shift_174 : decode b_A_shift 174 = .ok (.getfield 9, 3) := by decide +kernel
theorem kd_A_shift_177 : decode b_A_shift 177 = .ok (.iconst 1, 1) := by decide +kernel
theorem kd_A_shift_178 : decode b_A_shift 178 = .ok (.iload 8, 2) := by decide +kernel
theorem kd_A_shift_180 : decode b_A_shift 180 = .ok (.invokevirtual 19, 3) := by decide +kernel
theorem kd_A_shift_183 : decode b_A_shift 183 = .ok (.aload_n 0, 1) := by decide +kernel
theorem kd_A_shift_184 : decode b_A_shift 184 = .ok (.getfield 9, 3) := by decide +kernel
theorem kd_A_shift_187 : decode b_A_shift 187 = .ok (.iconst 2, 1) := by decide +kernel
theorem kd_A_shift_188 : decode b_A_shift 188 = .ok (.iload_n 3, 1) := by decide +kernel
theorem kd_A_shift_189 : decode b_A_shift 189 = .ok (.ifCond .ne 12, 3) := by decide +kernel
theorem kd_A_shift_192 : decode b_A_shift 192 = .ok (.iload 9, 2) := by decide +kernel
theorem kd_A_shift_194 : decode b_A_shift 194 = .ok (.ifCond .eq 7, 3) := by decide +kernel
theorem kd_A_shift_197 : decode b_A_shift 197 = .ok (.iconst 1, 1) := by decide +kernel
theorem kd_A_shift_198 : decode b_A_shift 198 = .ok (.goto 4, 3) := by decide +kernel
theorem kd_A_shift_201 : decode b_A_shift 201 = .ok (.iconst 0, 1) := by decide +kernel
theorem kd_A_shift_202 : decode b_A_shift 202 = .ok (.invokevirtual 19, 3) := by decide +kernel
theorem kd_A_shift_205 : decode b_A_shift 205 = .ok (.iload_n 3, 1) := by decide +kernel
theorem kd_A_shift_206 : decode b_A_shift 206 = .ok (.iconst 4, 1) := by decide +kernel
theorem kd_A_shift_207 : decode b_A_shift 207 = .ok (.if_icmp .ge 14, 3) := by decide +kernel
theorem kd_A_shift_210 : decode b_A_shift 210 = .ok (.aload_n 0, 1) := by decide +kernel
theorem kd_A_shift_211 : decode b_A_shift 211 = .ok (.getfield 9, 3) := by decide +kernel
theorem kd_A_shift_214 : decode b_A_shift 214 = .ok (.bipush 16, 2) := by decide +kernel
theorem kd_A_shift_216 : decode b_A_shift 216 = .ok (.iload 8, 2) := by decide +kernel
theorem kd_A_shift_218 : decode b_A_shift 218 = .ok (.invokevirtual 19, 3) := by decide +kernel
theorem kd_A_shift_221 : decode b_A_shift 221 = .ok (.iload 7, 2) := by decide +kernel
theorem kd_A_shift_223 : decode b_A_shift 223 = .ok (.ireturn, 1) := by decide +kernel
noncomputable def f_A_shift_221 (s0 : ZS) (l7 : Int32) : Option (Int32 × ZS) :=
  some (l7, s0)
noncomputable def f_A_shift_202 (s0 : ZS) (l3 : Int32) (l7 : Int32) (l8 : Int32) (t0 : Int32) (t1 : Int32) : Option (Int32 × ZS) :=
  (f_G_mark s0 t1 t0).bind fun s6 =>
  if 4 ≤ l3 then
    f_A_shift_221 s6 l7
  else
    (f_G_mark s6 16 l8).bind fun s7 =>
    f_A_shift_221 s7 l7
noncomputable def f_A_shift_201 (s0 : ZS) (l3 : Int32) (l7 : Int32) (l8 : Int32) (t0 : Int32) : Option (Int32 × ZS) :=
  f_A_shift_202 s0 l3 l7 l8 0 t0
noncomputable def f_A_shift_154 (K : ZS → Int32 → Int32 → Int32 → Int32 → Int32 → Int32 → Int32 → Int32 → Int32 → Option (Int32 × ZS)) (s0 : ZS) (l2 : Int32) (l3 : Int32) (l4 : Int32) (l5 : Int32) (l6 : Int32) (l8 : Int32) (l10 : Int32) (l11 : Int32) (t0 : Int32) : Option (Int32 × ZS) :=
  zs_nm (l10 + 1) fun v8 =>
  K s0 l2 l3 l4 l5 l6 l11 l8 t0 v8
noncomputable def f_A_shift_149 (K : ZS → Int32 → Int32 → Int32 → Int32 → Int32 → Int32 → Int32 → Int32 → Int32 → Option (Int32 × ZS)) (s0 : ZS) (l2 : Int32) (l3 : Int32) (l4 : Int32) (l5 : Int32) (l6 : Int32) (l8 : Int32) (l10 : Int32) (l11 : Int32) : Option (Int32 × ZS) :=
  f_A_shift_154 K s0 l2 l3 l4 l5 l6 l8 l10 l11 1
noncomputable def f_A_shift_133 (K : ZS → Int32 → Int32 → Int32 → Int32 → Int32 → Int32 → Int32 → Int32 → Int32 → Option (Int32 × ZS)) (s0 : ZS) (l2 : Int32) (l3 : Int32) (l4 : Int32) (l5 : Int32) (l6 : Int32) (l7 : Int32) (l8 : Int32) (l9 : Int32) (l10 : Int32) (l11 : Int32) : Option (Int32 × ZS) :=
  if l9 = 0 then
    if ((l11 ^^^ l7) &&& l5) = 0 then
      f_A_shift_154 K s0 l2 l3 l4 l5 l6 l8 l10 l11 0
    else
      f_A_shift_149 K s0 l2 l3 l4 l5 l6 l8 l10 l11
  else
    f_A_shift_149 K s0 l2 l3 l4 l5 l6 l8 l10 l11
noncomputable def f_A_shift_126 (K : ZS → Int32 → Int32 → Int32 → Int32 → Int32 → Int32 → Int32 → Int32 → Int32 → Option (Int32 × ZS)) (s0 : ZS) (l2 : Int32) (l3 : Int32) (l4 : Int32) (l5 : Int32) (l6 : Int32) (l7 : Int32) (l8 : Int32) (l9 : Int32) (l10 : Int32) (l11 : Int32) : Option (Int32 × ZS) :=
  zs_nm (l11 ||| l5) fun v9 =>
  f_A_shift_133 K s0 l2 l3 l4 l5 l6 l7 l8 l9 l10 v9
noncomputable def f_A_shift_113 (K : ZS → Int32 → Int32 → Int32 → Int32 → Int32 → Int32 → Int32 → Int32 → Int32 → Option (Int32 × ZS)) (s0 : ZS) (l2 : Int32) (l3 : Int32) (l4 : Int32) (l5 : Int32) (l6 : Int32) (l7 : Int32) (l8 : Int32) (l9 : Int32) (l10 : Int32) (l11 : Int32) : Option (Int32 × ZS) :=
  if l3 = 1 then
    if (l7 &&& l5) = 0 then
      f_A_shift_133 K s0 l2 l3 l4 l5 l6 l7 l8 l9 l10 l11
    else
      f_A_shift_126 K s0 l2 l3 l4 l5 l6 l7 l8 l9 l10 l11
  else
    f_A_shift_133 K s0 l2 l3 l4 l5 l6 l7 l8 l9 l10 l11
noncomputable def f_A_shift_101 (K : ZS → Int32 → Int32 → Int32 → Int32 → Int32 → Int32 → Int32 → Int32 → Int32 → Option (Int32 × ZS)) (s0 : ZS) (l2 : Int32) (l3 : Int32) (l4 : Int32) (l5 : Int32) (l6 : Int32) (l7 : Int32) (l8 : Int32) (l9 : Int32) (l10 : Int32) (t0 : Int32) : Option (Int32 × ZS) :=
  if l3 = 5 then
    if l8 = 0 then
      f_A_shift_113 K s0 l2 l3 l4 l5 l6 l7 l8 l9 l10 t0
    else
      f_A_shift_126 K s0 l2 l3 l4 l5 l6 l7 l8 l9 l10 t0
  else
    f_A_shift_113 K s0 l2 l3 l4 l5 l6 l7 l8 l9 l10 t0
noncomputable def f_A_shift_91 (K : ZS → Int32 → Int32 → Int32 → Int32 → Int32 → Int32 → Int32 → Int32 → Int32 → Option (Int32 × ZS)) (s0 : ZS) (l2 : Int32) (l3 : Int32) (l4 : Int32) (l5 : Int32) (l6 : Int32) (l7 : Int32) (l8 : Int32) (l9 : Int32) (l10 : Int32) (t0 : Int32) (t1 : Int32) (t2 : Int32) : Option (Int32 × ZS) :=
  (f_A_onceLeft s0 t2 t1 t0).bind fun p10 =>
  f_A_shift_101 K p10.2 l2 l3 l4 l5 l6 l7 l8 l9 l10 p10.1
noncomputable def f_A_shift_90 (K : ZS → Int32 → Int32 → Int32 → Int32 → Int32 → Int32 → Int32 → Int32 → Int32 → Option (Int32 × ZS)) (s0 : ZS) (l2 : Int32) (l3 : Int32) (l4 : Int32) (l5 : Int32) (l6 : Int32) (l7 : Int32) (l8 : Int32) (l9 : Int32) (l10 : Int32) (t0 : Int32) (t1 : Int32) : Option (Int32 × ZS) :=
  f_A_shift_91 K s0 l2 l3 l4 l5 l6 l7 l8 l9 l10 0 t0 t1
noncomputable def f_A_shift_65 (K : ZS → Int32 → Int32 → Int32 → Int32 → Int32 → Int32 → Int32 → Int32 → Int32 → Option (Int32 × ZS)) (s0 : ZS) (l2 : Int32) (l3 : Int32) (l4 : Int32) (l5 : Int32) (l6 : Int32) (l7 : Int32) (l9 : Int32) (l10 : Int32) (t0 : Int32) : Option (Int32 × ZS) :=
  if l6 = 0 then
    f_A_shift_101 K s0 l2 l3 l4 l5 l6 l7 t0 l9 l10 ((zo_ushr l7 1))
  else
    if l3 = 4 then
      if t0 = 0 then
        f_A_shift_90 K s0 l2 l3 l4 l5 l6 l7 t0 l9 l10 l2 l7
      else
        f_A_shift_91 K s0 l2 l3 l4 l5 l6 l7 t0 l9 l10 1 l2 l7
    else
      f_A_shift_90 K s0 l2 l3 l4 l5 l6 l7 t0 l9 l10 l2 l7
noncomputable def f_A_shift_56 (K : ZS → Int32 → Int32 → Int32 → Int32 → Int32 → Int32 → Int32 → Int32 → Int32 → Option (Int32 × ZS)) (s0 : ZS) (l2 : Int32) (l3 : Int32) (l4 : Int32) (l5 : Int32) (l6 : Int32) (l7 : Int32) (l9 : Int32) (l10 : Int32) (t0 : Int32) (t1 : Int32) : Option (Int32 × ZS) :=
  if (t1 &&& t0) = 0 then
    f_A_shift_65 K s0 l2 l3 l4 l5 l6 l7 l9 l10 0
  else
    f_A_shift_65 K s0 l2 l3 l4 l5 l6 l7 l9 l10 1
noncomputable def f_A_shift_36 : Nat → ZS → Int32 → Int32 → Int32 → Int32 → Int32 → Int32 → Int32 → Int32 → Int32 → Option (Int32 × ZS)
  | 0, _, _, _, _, _, _, _, _, _, _ => none
  | n+1, s0, l2, l3, l4, l5, l6, l7, l8, l9, l10 =>
    if l4 ≤ l10 then
      (f_A_markSign s0 l7 l2).bind fun s4 =>
      (f_G_mark s4 1 l8).bind fun s5 =>
      if l3 = 0 then
        if l9 = 0 then
          f_A_shift_201 s5 l3 l7 l8 2
        else
          f_A_shift_202 s5 l3 l7 l8 1 2
      else
        f_A_shift_201 s5 l3 l7 l8 2
    else
      if l6 = 0 then
        f_A_shift_56 (f_A_shift_36 n) s0 l2 l3 l4 l5 l6 l7 l9 l10 1 l7
      else
        f_A_shift_56 (f_A_shift_36 n) s0 l2 l3 l4 l5 l6 l7 l9 l10 l5 l7
noncomputable def f_A_shift_17 (s0 : ZS) (l1 : Int32) (l2 : Int32) (l3 : Int32) (l4 : Int32) (l5 : Int32) (t0 : Int32) : Option (Int32 × ZS) :=
  (f_F_maskOf s0 l2).bind fun p2 =>
  zs_nm (l1 &&& p2.1) fun v3 =>
  f_A_shift_36 20 p2.2 l2 l3 l4 l5 t0 v3 0 0 0
noncomputable def f_A_shift (s0 : ZS) (x1 : Int32) (x2 : Int32) (x3 : Int32) (x4 : Int32) : Option (Int32 × ZS) :=
  (f_F_topBitOf s0 x2).bind fun p1 =>
  if (zo_irem x3 2) = 0 then
    f_A_shift_17 p1.2 x1 x2 x3 x4 p1.1 1
  else
    f_A_shift_17 p1.2 x1 x2 x3 x4 p1.1 0
theorem j_A_shift_221 {P : ZP} {E : ZE} {A : Nat → Prop} (X : ZX E (zcV P) A "FrameMachine$Arithmetic" b_A_shift 12 (some .int) 2 44) (s0 : ZS) (l7 : Int32) : ZJ E (zcV P) A 12 (zFi E (zcV P) A) 221 [(7, .int l7)] [] s0 (f_A_shift_221 s0 l7) := by
  unfold f_A_shift_221
  refine zj_iload 223 0 X kd_A_shift_221 rfl rfl ?_
  exact zj_iret X kd_A_shift_223
theorem j_A_shift_202 {P : ZP} {E : ZE} {A : Nat → Prop} (X : ZX E (zcV P) A "FrameMachine$Arithmetic" b_A_shift 12 (some .int) 2 44) (s0 : ZS) (l3 : Int32) (l7 : Int32) (l8 : Int32) (t0 : Int32) (t1 : Int32) : ZJ E (zcV P) A 12 (zFi E (zcV P) A) 202 [(0, .ref (P.1 9)), (3, .int l3), (7, .int l7), (8, .int l8)] [.int t0, .int t1, .ref (P.1 3)] s0 (f_A_shift_202 s0 l3 l7 l8 t0 t1) := by
  unfold f_A_shift_202
  refine mc_A_19 205 X kd_A_shift_202 (Nat.le_of_ble_eq_true rfl) (Nat.le_of_ble_eq_true rfl) (Nat.le_of_ble_eq_true rfl) rfl (fun s6 => ?_)
  refine zj_iload_n 206 1 X kd_A_shift_205 rfl rfl rfl ?_
  refine zj_iconst 207 4 X kd_A_shift_206 ki_4 rfl ?_
  refine zj_icmp_ge 221 210 X kd_A_shift_207 rfl rfl (fun _ => ?_) (fun _ => ?_)
  · refine zj_loc [2] (L2 := [(7, .int l7)]) rfl ?_
    exact j_A_shift_221 X s6 l7
  · refine zj_aload_n 211 0 X kd_A_shift_210 rfl rfl rfl ?_
    refine gf_A_9 214 X kd_A_shift_211 rfl ?_
    refine zj_bipush 216 16 X kd_A_shift_214 kb_16 rfl ?_
    refine zj_iload 218 3 X kd_A_shift_216 rfl rfl ?_
    refine mc_A_19 221 X kd_A_shift_218 (Nat.le_of_ble_eq_true rfl) (Nat.le_of_ble_eq_true rfl) (Nat.le_of_ble_eq_true rfl) rfl (fun s7 => ?_)
    refine zj_loc [2] (L2 := [(7, .int l7)]) rfl ?_
    exact j_A_shift_221 X s7 l7
theorem j_A_shift_201 {P : ZP} {E : ZE} {A : Nat → Prop} (X : ZX E (zcV P) A "FrameMachine$Arithmetic" b_A_shift 12 (some .int) 2 44) (s0 : ZS) (l3 : Int32) (l7 : Int32) (l8 : Int32) (t0 : Int32) : ZJ E (zcV P) A 12 (zFi E (zcV P) A) 201 [(0, .ref (P.1 9)), (3, .int l3), (7, .int l7), (8, .int l8)] [.int t0, .ref (P.1 3)] s0 (f_A_shift_201 s0 l3 l7 l8 t0) := by
  unfold f_A_shift_201
  refine zj_iconst 202 0 X kd_A_shift_201 ki_0 rfl ?_
  exact j_A_shift_202 X s0 l3 l7 l8 0 t0
theorem j_A_shift_154 {P : ZP} {E : ZE} {A : Nat → Prop} (X : ZX E (zcV P) A "FrameMachine$Arithmetic" b_A_shift 12 (some .int) 2 44) (K : ZS → Int32 → Int32 → Int32 → Int32 → Int32 → Int32 → Int32 → Int32 → Int32 → Option (Int32 × ZS)) (hK : ∀ (s0 : ZS) (l2 : Int32) (l3 : Int32) (l4 : Int32) (l5 : Int32) (l6 : Int32) (l7 : Int32) (l8 : Int32) (l9 : Int32) (l10 : Int32), ZJ E (zcV P) A 12 (zFi E (zcV P) A) 36 [(0, .ref (P.1 9)), (2, .int l2), (3, .int l3), (4, .int l4), (5, .int l5), (6, .int l6), (7, .int l7), (8, .int l8), (9, .int l9), (10, .int l10)] [] s0 (K s0 l2 l3 l4 l5 l6 l7 l8 l9 l10)) (s0 : ZS) (l2 : Int32) (l3 : Int32) (l4 : Int32) (l5 : Int32) (l6 : Int32) (l8 : Int32) (l10 : Int32) (l11 : Int32) (t0 : Int32) : ZJ E (zcV P) A 12 (zFi E (zcV P) A) 154 [(0, .ref (P.1 9)), (2, .int l2), (3, .int l3), (4, .int l4), (5, .int l5), (6, .int l6), (8, .int l8), (10, .int l10), (11, .int l11)] [.int t0] s0 (f_A_shift_154 K s0 l2 l3 l4 l5 l6 l8 l10 l11 t0) := by
  unfold f_A_shift_154
  refine zj_istore 156 [(9, .int t0), (0, .ref (P.1 9)), (2, .int l2), (3, .int l3), (4, .int l4), (5, .int l5), (6, .int l6), (8, .int l8), (10, .int l10), (11, .int l11)] X kd_A_shift_154 (Nat.le_of_ble_eq_true rfl) rfl rfl ?_
  refine zj_iload 158 9 X kd_A_shift_156 rfl rfl ?_
  refine zj_istore 160 [(7, .int l11), (9, .int t0), (0, .ref (P.1 9)), (2, .int l2), (3, .int l3), (4, .int l4), (5, .int l5), (6, .int l6), (8, .int l8), (10, .int l10), (11, .int l11)] X kd_A_shift_158 (Nat.le_of_ble_eq_true rfl) rfl rfl ?_
  refine zj_iinc 163 9 1 (fun v8 => [(10, .int v8), (7, .int l11), (9, .int t0), (0, .ref (P.1 9)), (2, .int l2), (3, .int l3), (4, .int l4), (5, .int l5), (6, .int l6), (8, .int l8), (11, .int l11)]) X kd_A_shift_160 ki_1 rfl (Nat.le_of_ble_eq_true rfl) (fun _ => rfl) rfl (fun v8 => ?_)
  refine zj_goto 36 X kd_A_shift_163 rfl ?_
  refine zj_loc [3, 4, 5, 6, 7, 8, 1, 9, 2, 0] (L2 := [(0, .ref (P.1 9)), (2, .int l2), (3, .int l3), (4, .int l4), (5, .int l5), (6, .int l6), (7, .int l11), (8, .int l8), (9, .int t0), (10, .int v8)]) rfl ?_
  exact hK s0 l2 l3 l4 l5 l6 l11 l8 t0 v8
theorem j_A_shift_149 {P : ZP} {E : ZE} {A : Nat → Prop} (X : ZX E (zcV P) A "FrameMachine$Arithmetic" b_A_shift 12 (some .int) 2 44) (K : ZS → Int32 → Int32 → Int32 → Int32 → Int32 → Int32 → Int32 → Int32 → Int32 → Option (Int32 × ZS)) (hK : ∀ (s0 : ZS) (l2 : Int32) (l3 : Int32) (l4 : Int32) (l5 : Int32) (l6 : Int32) (l7 : Int32) (l8 : Int32) (l9 : Int32) (l10 : Int32), ZJ E (zcV P) A 12 (zFi E (zcV P) A) 36 [(0, .ref (P.1 9)), (2, .int l2), (3, .int l3), (4, .int l4), (5, .int l5), (6, .int l6), (7, .int l7), (8, .int l8), (9, .int l9), (10, .int l10)] [] s0 (K s0 l2 l3 l4 l5 l6 l7 l8 l9 l10)) (s0 : ZS) (l2 : Int32) (l3 : Int32) (l4 : Int32) (l5 : Int32) (l6 : Int32) (l8 : Int32) (l10 : Int32) (l11 : Int32) : ZJ E (zcV P) A 12 (zFi E (zcV P) A) 149 [(0, .ref (P.1 9)), (2, .int l2), (3, .int l3), (4, .int l4), (5, .int l5), (6, .int l6), (8, .int l8), (10, .int l10), (11, .int l11)] [] s0 (f_A_shift_149 K s0 l2 l3 l4 l5 l6 l8 l10 l11) := by
  unfold f_A_shift_149
  refine zj_iconst 150 1 X kd_A_shift_149 ki_1 rfl ?_
  refine zj_goto 154 X kd_A_shift_150 rfl ?_
  exact j_A_shift_154 X K hK s0 l2 l3 l4 l5 l6 l8 l10 l11 1
theorem j_A_shift_133 {P : ZP} {E : ZE} {A : Nat → Prop} (X : ZX E (zcV P) A "FrameMachine$Arithmetic" b_A_shift 12 (some .int) 2 44) (K : ZS → Int32 → Int32 → Int32 → Int32 → Int32 → Int32 → Int32 → Int32 → Int32 → Option (Int32 × ZS)) (hK : ∀ (s0 : ZS) (l2 : Int32) (l3 : Int32) (l4 : Int32) (l5 : Int32) (l6 : Int32) (l7 : Int32) (l8 : Int32) (l9 : Int32) (l10 : Int32), ZJ E (zcV P) A 12 (zFi E (zcV P) A) 36 [(0, .ref (P.1 9)), (2, .int l2), (3, .int l3), (4, .int l4), (5, .int l5), (6, .int l6), (7, .int l7), (8, .int l8), (9, .int l9), (10, .int l10)] [] s0 (K s0 l2 l3 l4 l5 l6 l7 l8 l9 l10)) (s0 : ZS) (l2 : Int32) (l3 : Int32) (l4 : Int32) (l5 : Int32) (l6 : Int32) (l7 : Int32) (l8 : Int32) (l9 : Int32) (l10 : Int32) (l11 : Int32) : ZJ E (zcV P) A 12 (zFi E (zcV P) A) 133 [(0, .ref (P.1 9)), (2, .int l2), (3, .int l3), (4, .int l4), (5, .int l5), (6, .int l6), (7, .int l7), (8, .int l8), (9, .int l9), (10, .int l10), (11, .int l11)] [] s0 (f_A_shift_133 K s0 l2 l3 l4 l5 l6 l7 l8 l9 l10 l11) := by
  unfold f_A_shift_133
  refine zj_iload 135 8 X kd_A_shift_133 rfl rfl ?_
  refine zj_if_ne 149 138 X kd_A_shift_135 rfl rfl (fun _ => ?_) (fun _ => ?_)
  · refine zj_iload 140 10 X kd_A_shift_138 rfl rfl ?_
    refine zj_iload 142 6 X kd_A_shift_140 rfl rfl ?_
    refine zj_ixor 143 X kd_A_shift_142 rfl ?_
    refine zj_iload 145 4 X kd_A_shift_143 rfl rfl ?_
    refine zj_iand 146 X kd_A_shift_145 rfl ?_
    refine zj_if_eq 153 149 X kd_A_shift_146 rfl rfl (fun _ => ?_) (fun _ => ?_)
    · refine zj_iconst 154 0 X kd_A_shift_153 ki_0 rfl ?_
      refine zj_loc [0, 1, 2, 3, 4, 5, 7, 9, 10] (L2 := [(0, .ref (P.1 9)), (2, .int l2), (3, .int l3), (4, .int l4), (5, .int l5), (6, .int l6), (8, .int l8), (10, .int l10), (11, .int l11)]) rfl ?_
      exact j_A_shift_154 X K hK s0 l2 l3 l4 l5 l6 l8 l10 l11 0
    · refine zj_loc [0, 1, 2, 3, 4, 5, 7, 9, 10] (L2 := [(0, .ref (P.1 9)), (2, .int l2), (3, .int l3), (4, .int l4), (5, .int l5), (6, .int l6), (8, .int l8), (10, .int l10), (11, .int l11)]) rfl ?_
      exact j_A_shift_149 X K hK s0 l2 l3 l4 l5 l6 l8 l10 l11
  · refine zj_loc [0, 1, 2, 3, 4, 5, 7, 9, 10] (L2 := [(0, .ref (P.1 9)), (2, .int l2), (3, .int l3), (4, .int l4), (5, .int l5), (6, .int l6), (8, .int l8), (10, .int l10), (11, .int l11)]) rfl ?_
    exact j_A_shift_149 X K hK s0 l2 l3 l4 l5 l6 l8 l10 l11
theorem j_A_shift_126 {P : ZP} {E : ZE} {A : Nat → Prop} (X : ZX E (zcV P) A "FrameMachine$Arithmetic" b_A_shift 12 (some .int) 2 44) (K : ZS → Int32 → Int32 → Int32 → Int32 → Int32 → Int32 → Int32 → Int32 → Int32 → Option (Int32 × ZS)) (hK : ∀ (s0 : ZS) (l2 : Int32) (l3 : Int32) (l4 : Int32) (l5 : Int32) (l6 : Int32) (l7 : Int32) (l8 : Int32) (l9 : Int32) (l10 : Int32), ZJ E (zcV P) A 12 (zFi E (zcV P) A) 36 [(0, .ref (P.1 9)), (2, .int l2), (3, .int l3), (4, .int l4), (5, .int l5), (6, .int l6), (7, .int l7), (8, .int l8), (9, .int l9), (10, .int l10)] [] s0 (K s0 l2 l3 l4 l5 l6 l7 l8 l9 l10)) (s0 : ZS) (l2 : Int32) (l3 : Int32) (l4 : Int32) (l5 : Int32) (l6 : Int32) (l7 : Int32) (l8 : Int32) (l9 : Int32) (l10 : Int32) (l11 : Int32) : ZJ E (zcV P) A 12 (zFi E (zcV P) A) 126 [(0, .ref (P.1 9)), (2, .int l2), (3, .int l3), (4, .int l4), (5, .int l5), (6, .int l6), (7, .int l7), (8, .int l8), (9, .int l9), (10, .int l10), (11, .int l11)] [] s0 (f_A_shift_126 K s0 l2 l3 l4 l5 l6 l7 l8 l9 l10 l11) := by
  unfold f_A_shift_126
  refine zj_iload 128 10 X kd_A_shift_126 rfl rfl ?_
  refine zj_iload 130 4 X kd_A_shift_128 rfl rfl ?_
  refine zj_ior 131 X kd_A_shift_130 rfl ?_
  refine zj_nmi (fun v9 => ?_)
  refine zj_istore 133 [(11, .int v9), (0, .ref (P.1 9)), (2, .int l2), (3, .int l3), (4, .int l4), (5, .int l5), (6, .int l6), (7, .int l7), (8, .int l8), (9, .int l9), (10, .int l10)] X kd_A_shift_131 (Nat.le_of_ble_eq_true rfl) rfl rfl ?_
  refine zj_loc [1, 2, 3, 4, 5, 6, 7, 8, 9, 10, 0] (L2 := [(0, .ref (P.1 9)), (2, .int l2), (3, .int l3), (4, .int l4), (5, .int l5), (6, .int l6), (7, .int l7), (8, .int l8), (9, .int l9), (10, .int l10), (11, .int v9)]) rfl ?_
  exact j_A_shift_133 X K hK s0 l2 l3 l4 l5 l6 l7 l8 l9 l10 v9
theorem j_A_shift_113 {P : ZP} {E : ZE} {A : Nat → Prop} (X : ZX E (zcV P) A "FrameMachine$Arithmetic" b_A_shift 12 (some .int) 2 44) (K : ZS → Int32 → Int32 → Int32 → Int32 → Int32 → Int32 → Int32 → Int32 → Int32 → Option (Int32 × ZS)) (hK : ∀ (s0 : ZS) (l2 : Int32) (l3 : Int32) (l4 : Int32) (l5 : Int32) (l6 : Int32) (l7 : Int32) (l8 : Int32) (l9 : Int32) (l10 : Int32), ZJ E (zcV P) A 12 (zFi E (zcV P) A) 36 [(0, .ref (P.1 9)), (2, .int l2), (3, .int l3), (4, .int l4), (5, .int l5), (6, .int l6), (7, .int l7), (8, .int l8), (9, .int l9), (10, .int l10)] [] s0 (K s0 l2 l3 l4 l5 l6 l7 l8 l9 l10)) (s0 : ZS) (l2 : Int32) (l3 : Int32) (l4 : Int32) (l5 : Int32) (l6 : Int32) (l7 : Int32) (l8 : Int32) (l9 : Int32) (l10 : Int32) (l11 : Int32) : ZJ E (zcV P) A 12 (zFi E (zcV P) A) 113 [(0, .ref (P.1 9)), (2, .int l2), (3, .int l3), (4, .int l4), (5, .int l5), (6, .int l6), (7, .int l7), (8, .int l8), (9, .int l9), (10, .int l10), (11, .int l11)] [] s0 (f_A_shift_113 K s0 l2 l3 l4 l5 l6 l7 l8 l9 l10 l11) := by
  unfold f_A_shift_113
  refine zj_iload_n 114 2 X kd_A_shift_113 rfl rfl rfl ?_
  refine zj_iconst 115 1 X kd_A_shift_114 ki_1 rfl ?_
  refine zj_icmp_ne 133 118 X kd_A_shift_115 rfl rfl (fun _ => ?_) (fun _ => ?_)
  · refine zj_iload 120 6 X kd_A_shift_118 rfl rfl ?_
    refine zj_iload 122 4 X kd_A_shift_120 rfl rfl ?_
    refine zj_iand 123 X kd_A_shift_122 rfl ?_
    refine zj_if_eq 133 126 X kd_A_shift_123 rfl rfl (fun _ => ?_) (fun _ => ?_)
    · exact j_A_shift_133 X K hK s0 l2 l3 l4 l5 l6 l7 l8 l9 l10 l11
    · exact j_A_shift_126 X K hK s0 l2 l3 l4 l5 l6 l7 l8 l9 l10 l11
  · exact j_A_shift_133 X K hK s0 l2 l3 l4 l5 l6 l7 l8 l9 l10 l11
theorem j_A_shift_101 {P : ZP} {E : ZE} {A : Nat → Prop} (X : ZX E (zcV P) A "FrameMachine$Arithmetic" b_A_shift 12 (some .int) 2 44) (K : ZS → Int32 → Int32 → Int32 → Int32 → Int32 → Int32 → Int32 → Int32 → Int32 → Option (Int32 × ZS)) (hK : ∀ (s0 : ZS) (l2 : Int32) (l3 : Int32) (l4 : Int32) (l5 : Int32) (l6 : Int32) (l7 : Int32) (l8 : Int32) (l9 : Int32) (l10 : Int32), ZJ E (zcV P) A 12 (zFi E (zcV P) A) 36 [(0, .ref (P.1 9)), (2, .int l2), (3, .int l3), (4, .int l4), (5, .int l5), (6, .int l6), (7, .int l7), (8, .int l8), (9, .int l9), (10, .int l10)] [] s0 (K s0 l2 l3 l4 l5 l6 l7 l8 l9 l10)) (s0 : ZS) (l2 : Int32) (l3 : Int32) (l4 : Int32) (l5 : Int32) (l6 : Int32) (l7 : Int32) (l8 : Int32) (l9 : Int32) (l10 : Int32) (t0 : Int32) : ZJ E (zcV P) A 12 (zFi E (zcV P) A) 101 [(0, .ref (P.1 9)), (2, .int l2), (3, .int l3), (4, .int l4), (5, .int l5), (6, .int l6), (7, .int l7), (8, .int l8), (9, .int l9), (10, .int l10)] [.int t0] s0 (f_A_shift_101 K s0 l2 l3 l4 l5 l6 l7 l8 l9 l10 t0) := by
  unfold f_A_shift_101
  refine zj_istore 103 [(11, .int t0), (0, .ref (P.1 9)), (2, .int l2), (3, .int l3), (4, .int l4), (5, .int l5), (6, .int l6), (7, .int l7), (8, .int l8), (9, .int l9), (10, .int l10)] X kd_A_shift_101 (Nat.le_of_ble_eq_true rfl) rfl rfl ?_
  refine zj_iload_n 104 3 X kd_A_shift_103 rfl rfl rfl ?_
  refine zj_iconst 105 5 X kd_A_shift_104 ki_5 rfl ?_
  refine zj_icmp_ne 113 108 X kd_A_shift_105 rfl rfl (fun _ => ?_) (fun _ => ?_)
  · refine zj_iload 110 8 X kd_A_shift_108 rfl rfl ?_
    refine zj_if_ne 126 113 X kd_A_shift_110 rfl rfl (fun _ => ?_) (fun _ => ?_)
    · refine zj_loc [1, 2, 3, 4, 5, 6, 7, 8, 9, 10, 0] (L2 := [(0, .ref (P.1 9)), (2, .int l2), (3, .int l3), (4, .int l4), (5, .int l5), (6, .int l6), (7, .int l7), (8, .int l8), (9, .int l9), (10, .int l10), (11, .int t0)]) rfl ?_
      exact j_A_shift_113 X K hK s0 l2 l3 l4 l5 l6 l7 l8 l9 l10 t0
    · refine zj_loc [1, 2, 3, 4, 5, 6, 7, 8, 9, 10, 0] (L2 := [(0, .ref (P.1 9)), (2, .int l2), (3, .int l3), (4, .int l4), (5, .int l5), (6, .int l6), (7, .int l7), (8, .int l8), (9, .int l9), (10, .int l10), (11, .int t0)]) rfl ?_
      exact j_A_shift_126 X K hK s0 l2 l3 l4 l5 l6 l7 l8 l9 l10 t0
  · refine zj_loc [1, 2, 3, 4, 5, 6, 7, 8, 9, 10, 0] (L2 := [(0, .ref (P.1 9)), (2, .int l2), (3, .int l3), (4, .int l4), (5, .int l5), (6, .int l6), (7, .int l7), (8, .int l8), (9, .int l9), (10, .int l10), (11, .int t0)]) rfl ?_
    exact j_A_shift_113 X K hK s0 l2 l3 l4 l5 l6 l7 l8 l9 l10 t0
theorem j_A_shift_91 {P : ZP} {E : ZE} {A : Nat → Prop} (X : ZX E (zcV P) A "FrameMachine$Arithmetic" b_A_shift 12 (some .int) 2 44) (K : ZS → Int32 → Int32 → Int32 → Int32 → Int32 → Int32 → Int32 → Int32 → Int32 → Option (Int32 × ZS)) (hK : ∀ (s0 : ZS) (l2 : Int32) (l3 : Int32) (l4 : Int32) (l5 : Int32) (l6 : Int32) (l7 : Int32) (l8 : Int32) (l9 : Int32) (l10 : Int32), ZJ E (zcV P) A 12 (zFi E (zcV P) A) 36 [(0, .ref (P.1 9)), (2, .int l2), (3, .int l3), (4, .int l4), (5, .int l5), (6, .int l6), (7, .int l7), (8, .int l8), (9, .int l9), (10, .int l10)] [] s0 (K s0 l2 l3 l4 l5 l6 l7 l8 l9 l10)) (s0 : ZS) (l2 : Int32) (l3 : Int32) (l4 : Int32) (l5 : Int32) (l6 : Int32) (l7 : Int32) (l8 : Int32) (l9 : Int32) (l10 : Int32) (t0 : Int32) (t1 : Int32) (t2 : Int32) : ZJ E (zcV P) A 12 (zFi E (zcV P) A) 91 [(0, .ref (P.1 9)), (2, .int l2), (3, .int l3), (4, .int l4), (5, .int l5), (6, .int l6), (7, .int l7), (8, .int l8), (9, .int l9), (10, .int l10)] [.int t0, .int t1, .int t2, .ref (P.1 9)] s0 (f_A_shift_91 K s0 l2 l3 l4 l5 l6 l7 l8 l9 l10 t0 t1 t2) := by
  unfold f_A_shift_91
  refine mc_A_45 94 X kd_A_shift_91 (Nat.le_of_ble_eq_true rfl) (Nat.le_of_ble_eq_true rfl) (Nat.le_of_ble_eq_true rfl) rfl (fun p10 => ?_)
  refine zj_goto 101 X kd_A_shift_94 rfl ?_
  exact j_A_shift_101 X K hK p10.2 l2 l3 l4 l5 l6 l7 l8 l9 l10 p10.1
theorem j_A_shift_90 {P : ZP} {E : ZE} {A : Nat → Prop} (X : ZX E (zcV P) A "FrameMachine$Arithmetic" b_A_shift 12 (some .int) 2 44) (K : ZS → Int32 → Int32 → Int32 → Int32 → Int32 → Int32 → Int32 → Int32 → Int32 → Option (Int32 × ZS)) (hK : ∀ (s0 : ZS) (l2 : Int32) (l3 : Int32) (l4 : Int32) (l5 : Int32) (l6 : Int32) (l7 : Int32) (l8 : Int32) (l9 : Int32) (l10 : Int32), ZJ E (zcV P) A 12 (zFi E (zcV P) A) 36 [(0, .ref (P.1 9)), (2, .int l2), (3, .int l3), (4, .int l4), (5, .int l5), (6, .int l6), (7, .int l7), (8, .int l8), (9, .int l9), (10, .int l10)] [] s0 (K s0 l2 l3 l4 l5 l6 l7 l8 l9 l10)) (s0 : ZS) (l2 : Int32) (l3 : Int32) (l4 : Int32) (l5 : Int32) (l6 : Int32) (l7 : Int32) (l8 : Int32) (l9 : Int32) (l10 : Int32) (t0 : Int32) (t1 : Int32) : ZJ E (zcV P) A 12 (zFi E (zcV P) A) 90 [(0, .ref (P.1 9)), (2, .int l2), (3, .int l3), (4, .int l4), (5, .int l5), (6, .int l6), (7, .int l7), (8, .int l8), (9, .int l9), (10, .int l10)] [.int t0, .int t1, .ref (P.1 9)] s0 (f_A_shift_90 K s0 l2 l3 l4 l5 l6 l7 l8 l9 l10 t0 t1) := by
  unfold f_A_shift_90
  refine zj_iconst 91 0 X kd_A_shift_90 ki_0 rfl ?_
  exact j_A_shift_91 X K hK s0 l2 l3 l4 l5 l6 l7 l8 l9 l10 0 t0 t1
theorem j_A_shift_65 {P : ZP} {E : ZE} {A : Nat → Prop} (X : ZX E (zcV P) A "FrameMachine$Arithmetic" b_A_shift 12 (some .int) 2 44) (K : ZS → Int32 → Int32 → Int32 → Int32 → Int32 → Int32 → Int32 → Int32 → Int32 → Option (Int32 × ZS)) (hK : ∀ (s0 : ZS) (l2 : Int32) (l3 : Int32) (l4 : Int32) (l5 : Int32) (l6 : Int32) (l7 : Int32) (l8 : Int32) (l9 : Int32) (l10 : Int32), ZJ E (zcV P) A 12 (zFi E (zcV P) A) 36 [(0, .ref (P.1 9)), (2, .int l2), (3, .int l3), (4, .int l4), (5, .int l5), (6, .int l6), (7, .int l7), (8, .int l8), (9, .int l9), (10, .int l10)] [] s0 (K s0 l2 l3 l4 l5 l6 l7 l8 l9 l10)) (s0 : ZS) (l2 : Int32) (l3 : Int32) (l4 : Int32) (l5 : Int32) (l6 : Int32) (l7 : Int32) (l9 : Int32) (l10 : Int32) (t0 : Int32) : ZJ E (zcV P) A 12 (zFi E (zcV P) A) 65 [(0, .ref (P.1 9)), (2, .int l2), (3, .int l3), (4, .int l4), (5, .int l5), (6, .int l6), (7, .int l7), (9, .int l9), (10, .int l10)] [.int t0] s0 (f_A_shift_65 K s0 l2 l3 l4 l5 l6 l7 l9 l10 t0) := by
  unfold f_A_shift_65
  refine zj_istore 67 [(8, .int t0), (0, .ref (P.1 9)), (2, .int l2), (3, .int l3), (4, .int l4), (5, .int l5), (6, .int l6), (7, .int l7), (9, .int l9), (10, .int l10)] X kd_A_shift_65 (Nat.le_of_ble_eq_true rfl) rfl rfl ?_
  refine zj_iload 69 6 X kd_A_shift_67 rfl rfl ?_
  refine zj_if_eq 97 72 X kd_A_shift_69 rfl rfl (fun _ => ?_) (fun _ => ?_)
  · refine zj_iload 99 7 X kd_A_shift_97 rfl rfl ?_
    refine zj_iconst 100 1 X kd_A_shift_99 ki_1 rfl ?_
    refine zj_iushr 101 X kd_A_shift_100 rfl ?_
    refine zj_loc [1, 2, 3, 4, 5, 6, 7, 0, 8, 9] (L2 := [(0, .ref (P.1 9)), (2, .int l2), (3, .int l3), (4, .int l4), (5, .int l5), (6, .int l6), (7, .int l7), (8, .int t0), (9, .int l9), (10, .int l10)]) rfl ?_
    exact j_A_shift_101 X K hK s0 l2 l3 l4 l5 l6 l7 t0 l9 l10 ((zo_ushr l7 1))
  · refine zj_aload_n 73 1 X kd_A_shift_72 rfl rfl rfl ?_
    refine zj_iload 75 7 X kd_A_shift_73 rfl rfl ?_
    refine zj_iload_n 76 2 X kd_A_shift_75 rfl rfl rfl ?_
    refine zj_iload_n 77 3 X kd_A_shift_76 rfl rfl rfl ?_
    refine zj_iconst 78 4 X kd_A_shift_77 ki_4 rfl ?_
    refine zj_icmp_ne 90 81 X kd_A_shift_78 rfl rfl (fun _ => ?_) (fun _ => ?_)
    · refine zj_iload 83 0 X kd_A_shift_81 rfl rfl ?_
      refine zj_if_eq 90 86 X kd_A_shift_83 rfl rfl (fun _ => ?_) (fun _ => ?_)
      · refine zj_loc [1, 2, 3, 4, 5, 6, 7, 0, 8, 9] (L2 := [(0, .ref (P.1 9)), (2, .int l2), (3, .int l3), (4, .int l4), (5, .int l5), (6, .int l6), (7, .int l7), (8, .int t0), (9, .int l9), (10, .int l10)]) rfl ?_
        exact j_A_shift_90 X K hK s0 l2 l3 l4 l5 l6 l7 t0 l9 l10 l2 l7
      · refine zj_iconst 87 1 X kd_A_shift_86 ki_1 rfl ?_
        refine zj_goto 91 X kd_A_shift_87 rfl ?_
        refine zj_loc [1, 2, 3, 4, 5, 6, 7, 0, 8, 9] (L2 := [(0, .ref (P.1 9)), (2, .int l2), (3, .int l3), (4, .int l4), (5, .int l5), (6, .int l6), (7, .int l7), (8, .int t0), (9, .int l9), (10, .int l10)]) rfl ?_
        exact j_A_shift_91 X K hK s0 l2 l3 l4 l5 l6 l7 t0 l9 l10 1 l2 l7
    · refine zj_loc [1, 2, 3, 4, 5, 6, 7, 0, 8, 9] (L2 := [(0, .ref (P.1 9)), (2, .int l2), (3, .int l3), (4, .int l4), (5, .int l5), (6, .int l6), (7, .int l7), (8, .int t0), (9, .int l9), (10, .int l10)]) rfl ?_
      exact j_A_shift_90 X K hK s0 l2 l3 l4 l5 l6 l7 t0 l9 l10 l2 l7
theorem j_A_shift_56 {P : ZP} {E : ZE} {A : Nat → Prop} (X : ZX E (zcV P) A "FrameMachine$Arithmetic" b_A_shift 12 (some .int) 2 44) (K : ZS → Int32 → Int32 → Int32 → Int32 → Int32 → Int32 → Int32 → Int32 → Int32 → Option (Int32 × ZS)) (hK : ∀ (s0 : ZS) (l2 : Int32) (l3 : Int32) (l4 : Int32) (l5 : Int32) (l6 : Int32) (l7 : Int32) (l8 : Int32) (l9 : Int32) (l10 : Int32), ZJ E (zcV P) A 12 (zFi E (zcV P) A) 36 [(0, .ref (P.1 9)), (2, .int l2), (3, .int l3), (4, .int l4), (5, .int l5), (6, .int l6), (7, .int l7), (8, .int l8), (9, .int l9), (10, .int l10)] [] s0 (K s0 l2 l3 l4 l5 l6 l7 l8 l9 l10)) (s0 : ZS) (l2 : Int32) (l3 : Int32) (l4 : Int32) (l5 : Int32) (l6 : Int32) (l7 : Int32) (l9 : Int32) (l10 : Int32) (t0 : Int32) (t1 : Int32) : ZJ E (zcV P) A 12 (zFi E (zcV P) A) 56 [(0, .ref (P.1 9)), (2, .int l2), (3, .int l3), (4, .int l4), (5, .int l5), (6, .int l6), (7, .int l7), (9, .int l9), (10, .int l10)] [.int t0, .int t1] s0 (f_A_shift_56 K s0 l2 l3 l4 l5 l6 l7 l9 l10 t0 t1) := by
  unfold f_A_shift_56
  refine zj_iand 57 X kd_A_shift_56 rfl ?_
  refine zj_if_eq 64 60 X kd_A_shift_57 rfl rfl (fun _ => ?_) (fun _ => ?_)
  · refine zj_iconst 65 0 X kd_A_shift_64 ki_0 rfl ?_
    exact j_A_shift_65 X K hK s0 l2 l3 l4 l5 l6 l7 l9 l10 0
  · refine zj_iconst 61 1 X kd_A_shift_60 ki_1 rfl ?_
    refine zj_goto 65 X kd_A_shift_61 rfl ?_
    exact j_A_shift_65 X K hK s0 l2 l3 l4 l5 l6 l7 l9 l10 1
theorem j_A_shift_36 {P : ZP} {E : ZE} {A : Nat → Prop} (X : ZX E (zcV P) A "FrameMachine$Arithmetic" b_A_shift 12 (some .int) 2 44) : ∀ (n : Nat) (s0 : ZS) (l2 : Int32) (l3 : Int32) (l4 : Int32) (l5 : Int32) (l6 : Int32) (l7 : Int32) (l8 : Int32) (l9 : Int32) (l10 : Int32), ZJ E (zcV P) A 12 (zFi E (zcV P) A) 36 [(0, .ref (P.1 9)), (2, .int l2), (3, .int l3), (4, .int l4), (5, .int l5), (6, .int l6), (7, .int l7), (8, .int l8), (9, .int l9), (10, .int l10)] [] s0 (f_A_shift_36 n s0 l2 l3 l4 l5 l6 l7 l8 l9 l10) := by
  intro n
  induction n with
  | zero => intro s0 l2 l3 l4 l5 l6 l7 l8 l9 l10; rw [f_A_shift_36]; exact zj_none
  | succ n hK =>
    intro s0 l2 l3 l4 l5 l6 l7 l8 l9 l10
    rw [f_A_shift_36]
    refine zj_iload 38 9 X kd_A_shift_36 rfl rfl ?_
    refine zj_iload 40 3 X kd_A_shift_38 rfl rfl ?_
    refine zj_icmp_ge 166 43 X kd_A_shift_40 rfl rfl (fun _ => ?_) (fun _ => ?_)
    · refine zj_aload_n 167 0 X kd_A_shift_166 rfl rfl rfl ?_
      refine zj_iload 169 6 X kd_A_shift_167 rfl rfl ?_
      refine zj_iload_n 170 1 X kd_A_shift_169 rfl rfl rfl ?_
      refine mc_A_15 173 X kd_A_shift_170 (Nat.le_of_ble_eq_true rfl) (Nat.le_of_ble_eq_true rfl) (Nat.le_of_ble_eq_true rfl) rfl (fun s4 => ?_)
      refine zj_aload_n 174 0 X kd_A_shift_173 rfl rfl rfl ?_
      refine gf_A_9 177 X kd_A_shift_174 rfl ?_
      refine zj_iconst 178 1 X kd_A_shift_177 ki_1 rfl ?_
      refine zj_iload 180 7 X kd_A_shift_178 rfl rfl ?_
      refine mc_A_19 183 X kd_A_shift_180 (Nat.le_of_ble_eq_true rfl) (Nat.le_of_ble_eq_true rfl) (Nat.le_of_ble_eq_true rfl) rfl (fun s5 => ?_)
      refine zj_aload_n 184 0 X kd_A_shift_183 rfl rfl rfl ?_
      refine gf_A_9 187 X kd_A_shift_184 rfl ?_
      refine zj_iconst 188 2 X kd_A_shift_187 ki_2 rfl ?_
      refine zj_iload_n 189 2 X kd_A_shift_188 rfl rfl rfl ?_
      refine zj_if_ne 201 192 X kd_A_shift_189 rfl rfl (fun _ => ?_) (fun _ => ?_)
      · refine zj_iload 194 8 X kd_A_shift_192 rfl rfl ?_
        refine zj_if_eq 201 197 X kd_A_shift_194 rfl rfl (fun _ => ?_) (fun _ => ?_)
        · refine zj_loc [0, 2, 6, 7] (L2 := [(0, .ref (P.1 9)), (3, .int l3), (7, .int l7), (8, .int l8)]) rfl ?_
          exact j_A_shift_201 X s5 l3 l7 l8 2
        · refine zj_iconst 198 1 X kd_A_shift_197 ki_1 rfl ?_
          refine zj_goto 202 X kd_A_shift_198 rfl ?_
          refine zj_loc [0, 2, 6, 7] (L2 := [(0, .ref (P.1 9)), (3, .int l3), (7, .int l7), (8, .int l8)]) rfl ?_
          exact j_A_shift_202 X s5 l3 l7 l8 1 2
      · refine zj_loc [0, 2, 6, 7] (L2 := [(0, .ref (P.1 9)), (3, .int l3), (7, .int l7), (8, .int l8)]) rfl ?_
        exact j_A_shift_201 X s5 l3 l7 l8 2
    · refine zj_iload 45 6 X kd_A_shift_43 rfl rfl ?_
      refine zj_iload 47 5 X kd_A_shift_45 rfl rfl ?_
      refine zj_if_eq 55 50 X kd_A_shift_47 rfl rfl (fun _ => ?_) (fun _ => ?_)
      · refine zj_iconst 56 1 X kd_A_shift_55 ki_1 rfl ?_
        refine zj_loc [0, 1, 2, 3, 4, 5, 6, 8, 9] (L2 := [(0, .ref (P.1 9)), (2, .int l2), (3, .int l3), (4, .int l4), (5, .int l5), (6, .int l6), (7, .int l7), (9, .int l9), (10, .int l10)]) rfl ?_
        exact j_A_shift_56 X (f_A_shift_36 n) hK s0 l2 l3 l4 l5 l6 l7 l9 l10 1 l7
      · refine zj_iload 52 4 X kd_A_shift_50 rfl rfl ?_
        refine zj_goto 56 X kd_A_shift_52 rfl ?_
        refine zj_loc [0, 1, 2, 3, 4, 5, 6, 8, 9] (L2 := [(0, .ref (P.1 9)), (2, .int l2), (3, .int l3), (4, .int l4), (5, .int l5), (6, .int l6), (7, .int l7), (9, .int l9), (10, .int l10)]) rfl ?_
        exact j_A_shift_56 X (f_A_shift_36 n) hK s0 l2 l3 l4 l5 l6 l7 l9 l10 l5 l7
theorem j_A_shift_17 {P : ZP} {E : ZE} {A : Nat → Prop} (X : ZX E (zcV P) A "FrameMachine$Arithmetic" b_A_shift 12 (some .int) 2 44) (s0 : ZS) (l1 : Int32) (l2 : Int32) (l3 : Int32) (l4 : Int32) (l5 : Int32) (t0 : Int32) : ZJ E (zcV P) A 12 (zFi E (zcV P) A) 17 [(0, .ref (P.1 9)), (1, .int l1), (2, .int l2), (3, .int l3), (4, .int l4), (5, .int l5)] [.int t0] s0 (f_A_shift_17 s0 l1 l2 l3 l4 l5 t0) := by
  unfold f_A_shift_17
  refine zj_istore 19 [(6, .int t0), (0, .ref (P.1 9)), (1, .int l1), (2, .int l2), (3, .int l3), (4, .int l4), (5, .int l5)] X kd_A_shift_17 (Nat.le_of_ble_eq_true rfl) rfl rfl ?_
  refine zj_iload_n 20 2 X kd_A_shift_19 rfl rfl rfl ?_
  refine zj_iload_n 21 3 X kd_A_shift_20 rfl rfl rfl ?_
  refine mc_A_29 24 X kd_A_shift_21 (Nat.le_of_ble_eq_true rfl) (Nat.le_of_ble_eq_true rfl) (Nat.le_of_ble_eq_true rfl) rfl (fun p2 => ?_)
  refine zj_iand 25 X kd_A_shift_24 rfl ?_
  refine zj_nmi (fun v3 => ?_)
  refine zj_istore 27 [(7, .int v3), (6, .int t0), (0, .ref (P.1 9)), (1, .int l1), (2, .int l2), (3, .int l3), (4, .int l4), (5, .int l5)] X kd_A_shift_25 (Nat.le_of_ble_eq_true rfl) rfl rfl ?_
  refine zj_iconst 28 0 X kd_A_shift_27 ki_0 rfl ?_
  refine zj_istore 30 [(8, .int 0), (7, .int v3), (6, .int t0), (0, .ref (P.1 9)), (1, .int l1), (2, .int l2), (3, .int l3), (4, .int l4), (5, .int l5)] X kd_A_shift_28 (Nat.le_of_ble_eq_true rfl) rfl rfl ?_
  refine zj_iconst 31 0 X kd_A_shift_30 ki_0 rfl ?_
  refine zj_istore 33 [(9, .int 0), (8, .int 0), (7, .int v3), (6, .int t0), (0, .ref (P.1 9)), (1, .int l1), (2, .int l2), (3, .int l3), (4, .int l4), (5, .int l5)] X kd_A_shift_31 (Nat.le_of_ble_eq_true rfl) rfl rfl ?_
  refine zj_iconst 34 0 X kd_A_shift_33 ki_0 rfl ?_
  refine zj_istore 36 [(10, .int 0), (9, .int 0), (8, .int 0), (7, .int v3), (6, .int t0), (0, .ref (P.1 9)), (1, .int l1), (2, .int l2), (3, .int l3), (4, .int l4), (5, .int l5)] X kd_A_shift_34 (Nat.le_of_ble_eq_true rfl) rfl rfl ?_
  refine zj_loc [5, 7, 8, 9, 10, 4, 3, 2, 1, 0] (L2 := [(0, .ref (P.1 9)), (2, .int l2), (3, .int l3), (4, .int l4), (5, .int l5), (6, .int t0), (7, .int v3), (8, .int 0), (9, .int 0), (10, .int 0)]) rfl ?_
  exact j_A_shift_36 X 20 p2.2 l2 l3 l4 l5 t0 v3 0 0 0
theorem j_A_shift {P : ZP} {E : ZE} {A : Nat → Prop} (X : ZX E (zcV P) A "FrameMachine$Arithmetic" b_A_shift 12 (some .int) 2 44) (s0 : ZS) (x1 : Int32) (x2 : Int32) (x3 : Int32) (x4 : Int32) : ZJ E (zcV P) A 12 (zFi E (zcV P) A) 0 [(0, .ref (P.1 9)), (1, .int x1), (2, .int x2), (3, .int x3), (4, .int x4)] [] s0 (f_A_shift s0 x1 x2 x3 x4) := by
  unfold f_A_shift
  refine zj_iload_n 1 2 X kd_A_shift_0 rfl rfl rfl ?_
  refine mc_A_25 4 X kd_A_shift_1 (Nat.le_of_ble_eq_true rfl) (Nat.le_of_ble_eq_true rfl) (Nat.le_of_ble_eq_true rfl) rfl (fun p1 => ?_)
  refine zj_istore 6 [(5, .int p1.1), (0, .ref (P.1 9)), (1, .int x1), (2, .int x2), (3, .int x3), (4, .int x4)] X kd_A_shift_4 (Nat.le_of_ble_eq_true rfl) rfl rfl ?_
  refine zj_iload_n 7 4 X kd_A_shift_6 rfl rfl rfl ?_
  refine zj_iconst 8 2 X kd_A_shift_7 ki_2 rfl ?_
  refine zj_irem 9 X kd_A_shift_8 (by decide) rfl ?_
  refine zj_if_ne 16 12 X kd_A_shift_9 rfl rfl (fun _ => ?_) (fun _ => ?_)
  · refine zj_iconst 13 1 X kd_A_shift_12 ki_1 rfl ?_
    refine zj_goto 17 X kd_A_shift_13 rfl ?_
    refine zj_loc [1, 2, 3, 4, 5, 0] (L2 := [(0, .ref (P.1 9)), (1, .int x1), (2, .int x2), (3, .int x3), (4, .int x4), (5, .int p1.1)]) rfl ?_
    exact j_A_shift_17 X p1.2 x1 x2 x3 x4 p1.1 1
  · refine zj_iconst 17 0 X kd_A_shift_16 ki_0 rfl ?_
    refine zj_loc [1, 2, 3, 4, 5, 0] (L2 := [(0, .ref (P.1 9)), (1, .int x1), (2, .int x2), (3, .int x3), (4, .int x4), (5, .int p1.1)]) rfl ?_
    exact j_A_shift_17 X p1.2 x1 x2 x3 x4 p1.1 0
theorem c_A_shift {l : Launch} {P : ZP} (hV : ZVok (zcV P)) (s0 : ZS) (x1 : Int32) (x2 : Int32) (x3 : Int32) (x4 : Int32) {z : Int32 × ZS} (h : f_A_shift s0 x1 x2 x3 x4 = some z) : zMi l y_A_shift b_A_shift 12 (some .int) 2 44 (zcV P) s0 [.ref (P.1 9), .int x1, .int x2, .int x3, .int x4] z :=
  zMi_of (by decide +kernel) rfl rfl (Nat.le_of_ble_eq_true rfl) hV (fun _ X => j_A_shift X s0 x1 x2 x3 x4) h
theorem kc_P_252 : zCV "FrameMachine$Processor" 252 y_A_shift b_A_shift 12 (some .int) 4 := ⟨⟨kw_668, kw_669, kw_670, kw_10, kw_671⟩, by decide +kernel, by decide +kernel, by decide +kernel⟩
theorem mc_P_252 {ρ : Type} {E : ZE} {P : ZP} {A : Nat → Prop} {cc : ByteArray} {nL : Nat} {ret : Option FieldType} {fr lo : Nat} {F : ρ → State → Prop} {pc : Nat} {L : List (Nat × Value)} {rest : List Value} {σ : ZS} {x1 : Int32} {x2 : Int32} {x3 : Int32} {x4 : Int32} {K : Int32 × ZS → Option ρ} (q : Nat) (X : ZX E (zcV P) A "FrameMachine$Processor" cc nL ret fr lo) (d : decode cc pc = .ok (.invokevirtual 252, 3)) (hfr : 2 + 1 ≤ fr) (hlo : 8 + (12 + 11) + 44 ≤ lo) (hr : (rest.map fun v => v.category).sum ≤ 8) (hq : pc + 3 = q) (kk : ∀ p : Int32 × ZS, ZJ E (zcV P) A nL F q L (.int p.1 :: rest) p.2 (K p)) : ZJ E (zcV P) A nL F pc L (.int x4 :: .int x3 :: .int x2 :: .int x1 :: .ref (P.1 9) :: rest) σ ((f_A_shift σ x1 x2 x3 x4).bind K) :=
  zj_cVi q 9 9 (As := [.int x1, .int x2, .int x3, .int x4]) (rest := rest) X kc_P_252 hfr hlo (fun p h => c_A_shift (zx_v X) σ x1 x2 x3 x4 h) rfl rfl rfl hr d hq kk
