-- FrameMachine.poke(II)Z
abbrev b_F_poke : ByteArray := prog_1_method_2_code
def y_F_poke : MethodName := ⟨"FrameMachine", "poke", "(II)Z"⟩
theorem kd_F_poke_0 : decode b_F_poke 0 = .ok (.iload_n 1, 1) := by decide +kernel
theorem kd_F_poke_1 : decode b_F_poke 1 = .ok (.invokestatic 55, 3) := by decide +kernel
theorem kd_F_poke_4 : decode b_F_poke 4 = .ok (.ifCond .ne 13, 3) := by decide +kernel
theorem kd_F_poke_7 : decode b_F_poke 7 = .ok (.iload_n 2, 1) := by decide +kernel
theorem kd_F_poke_8 : decode b_F_poke 8 = .ok (.ifCond .lt 9, 3) := by decide +kernel
theorem kd_F_poke_11 : decode b_F_poke 11 = .ok (.iload_n 2, 1) := by decide +kernel
theorem kd_F_poke_12 : decode b_F_poke 12 = .ok (.ldc 59, 2) := by decide +kernel
theorem kd_F_poke_14 : decode b_F_poke 14 = .ok (.if_icmp .le 13, 3) := by decide +kernel
theorem kd_F_poke_17 : decode b_F_poke 17 = .ok (.new 60, 3) := by decide +kernel
theorem kd_F_poke_20 : decode b_F_poke 20 = .ok (.dup, 1) := by decide +kernel
theorem kd_F_poke_21 : decode b_F_poke 21 = .ok (.ldc 62, 2) := by decide +kernel
theorem kd_F_poke_23 : decode b_F_poke 23 = .ok (.invokespecial 64, 3) := by decide +kernel
theorem kd_F_poke_26 : decode b_F_poke 26 = .ok (.athrow, 1) := by decide +kernel
theorem kd_F_poke_27 : decode b_F_poke 27 = .ok (.aload_n 0, 1) := by decide +kernel
theorem kd_F_poke_28 : decode b_F_poke 28 = .ok (.getfield 21, 3) := by decide +kernel
theorem kd_F_poke_31 : decode b_F_poke 31 = .ok (.iload_n 1, 1) := by decide +kernel
theorem kd_F_poke_32 : decode b_F_poke 32 = .ok (.iconst 1, 1) := by decide +kernel
theorem kd_F_poke_33 : decode b_F_poke 33 = .ok (.iload_n 2, 1) := by decide +kernel
theorem kd_F_poke_34 : decode b_F_poke 34 = .ok (.invokevirtual 67, 3) := by decide +kernel
theorem kd_F_poke_37 : decode b_F_poke 37 = .ok (.iconst 1, 1) := by decide +kernel
theorem kd_F_poke_38 : decode b_F_poke 38 = .ok (.ireturn, 1) := by decide +kernel
noncomputable def f_F_poke (s0 : ZS) (x1 : Int32) (x2 : Int32) : Option (Option Int32 × ZS) :=
  (f_F_isNoWordOfMemory s0 x1).bind fun p1 =>
  if p1.1 = 0 then
    if x2 < 0 then
      some (none, p1.2)
    else
      if x2 ≤ 65535 then
        (f_B_write p1.2 x1 1 x2).bind fun s2 =>
        some (some 1, s2)
      else
        some (none, p1.2)
  else
    some (none, p1.2)
theorem j_F_poke {P : ZP} {E : ZE} {A : Nat → Prop} (X : ZX E (zcV P) A "FrameMachine" b_F_poke 3 (some .boolean) 6 90) (s0 : ZS) (Y : ZY E (zcV P) A s0) (x1 : Int32) (x2 : Int32) : ZK E 3 (zFt E (zcV P) A) 0 [(0, .ref (P.1 0)), (1, .int x1), (2, .int x2)] [] (f_F_poke s0 x1 x2) := by
  unfold f_F_poke
  refine zk_iload_n 1 1 X kd_F_poke_0 rfl rfl rfl ?_
  refine zk_noWord 4 X kd_F_poke_1 (Nat.le_of_ble_eq_true rfl) (Nat.le_of_ble_eq_true rfl) (Nat.le_of_ble_eq_true rfl) rfl (fun p1 e1 => ?_)
  refine zk_if_ne 17 7 X kd_F_poke_4 rfl rfl (fun _ => ?_) (fun _ => ?_)
  · refine zk_iload_n 8 2 X kd_F_poke_7 rfl rfl rfl ?_
    refine zk_if_lt 17 11 X kd_F_poke_8 rfl rfl (fun _ => ?_) (fun _ => ?_)
    · exact zk_throw (ib := 62) e1 X Y (Nat.le_of_ble_eq_true rfl) (Nat.le_of_ble_eq_true rfl) (fun h => h.2.2.2.1) kd_F_poke_17 kd_F_poke_20 kd_F_poke_21 kd_F_poke_23 kd_F_poke_26
    · refine zk_iload_n 12 2 X kd_F_poke_11 rfl rfl rfl ?_
      refine zk_ldc 14 65535 X kd_F_poke_12 kw_364 rfl ?_
      refine zk_icmp_le 27 17 X kd_F_poke_14 rfl rfl (fun _ => ?_) (fun _ => ?_)
      · refine zk_zj e1 Y ?_
        refine zj_aload_n 28 0 X kd_F_poke_27 rfl rfl rfl ?_
        refine gf_F_21 31 X kd_F_poke_28 rfl ?_
        refine zj_iload_n 32 1 X kd_F_poke_31 rfl rfl rfl ?_
        refine zj_iconst 33 1 X kd_F_poke_32 ki_1 rfl ?_
        refine zj_iload_n 34 2 X kd_F_poke_33 rfl rfl rfl ?_
        refine mc_F_67 37 X kd_F_poke_34 (Nat.le_of_ble_eq_true rfl) (Nat.le_of_ble_eq_true rfl) (Nat.le_of_ble_eq_true rfl) rfl (fun s2 => ?_)
        refine zj_iconst 38 1 X kd_F_poke_37 ki_1 rfl ?_
        exact zj_tzret X kd_F_poke_38 (Or.inr rfl)
      · exact zk_throw (ib := 62) e1 X Y (Nat.le_of_ble_eq_true rfl) (Nat.le_of_ble_eq_true rfl) (fun h => h.2.2.2.1) kd_F_poke_17 kd_F_poke_20 kd_F_poke_21 kd_F_poke_23 kd_F_poke_26
  · exact zk_throw (ib := 62) e1 X Y (Nat.le_of_ble_eq_true rfl) (Nat.le_of_ble_eq_true rfl) (fun h => h.2.2.2.1) kd_F_poke_17 kd_F_poke_20 kd_F_poke_21 kd_F_poke_23 kd_F_poke_26
theorem ct_F_poke {l : Launch} (hl : l.stackTraces = false) {P : ZP} (hV : ZVok (zcV P)) (s0 : ZS) (sz : Nat) (x1 : Int32) (x2 : Int32) {z : Option Int32 × ZS} (h : f_F_poke s0 x1 x2 = some z) : zMt l y_F_poke b_F_poke 3 (some .boolean) 6 90 (zcV P) s0 sz [.ref (P.1 0), .int x1, .int x2] z :=
  zMt_of (by decide +kernel) rfl rfl (Nat.le_of_ble_eq_true rfl) hV zc_T_grow hl (fun _ X Y => j_F_poke X s0 Y x1 x2) h
-- FrameMachine.peek(I)I
abbrev b_F_peek : ByteArray := prog_1_method_3_code
def y_F_peek : MethodName := ⟨"FrameMachine", "peek", "(I)I"⟩
theorem kd_F_peek_0 : decode b_F_peek 0 = .ok (.iload_n 1, 1) := by decide +kernel
theorem kd_F_peek_1 : decode b_F_peek 1 = .ok (.invokestatic 55, 3) := by decide +kernel
theorem kd_F_peek_4 : decode b_F_peek 4 = .ok (.ifCond .eq 13, 3) := by decide +kernel
theorem kd_F_peek_7 : decode b_F_peek 7 = .ok (.new 60, 3) := by decide +kernel
theorem kd_F_peek_10 : decode b_F_peek 10 = .ok (.dup, 1) := by decide +kernel
theorem kd_F_peek_11 : decode b_F_peek 11 = .ok (.ldc 71, 2) := by decide +kernel
theorem kd_F_peek_13 : decode b_F_peek 13 = .ok (.invokespecial 64, 3) := by decide +kernel
theorem kd_F_peek_16 : decode b_F_peek 16 = .ok (.athrow, 1) := by decide +kernel
theorem kd_F_peek_17 : decode b_F_peek 17 = .ok (.aload_n 0, 1) := by decide +kernel
theorem kd_F_peek_18 : decode b_F_peek 18 = .ok (.getfield 21, 3) := by decide +kernel
theorem kd_F_peek_21 : decode b_F_peek 21 = .ok (.iload_n 1, 1) := by decide +kernel
theorem kd_F_peek_22 : decode b_F_peek 22 = .ok (.iconst 1, 1) := by decide +kernel
theorem kd_F_peek_23 : decode b_F_peek 23 = .ok (.invokevirtual 73, 3) := by decide +kernel
theorem kd_F_peek_26 : decode b_F_peek 26 = .ok (.ireturn, 1) := by decide +kernel
noncomputable def f_F_peek (s0 : ZS) (x1 : Int32) : Option (Option Int32 × ZS) :=
  (f_F_isNoWordOfMemory s0 x1).bind fun p1 =>
  if p1.1 = 0 then
    (f_B_read p1.2 x1 1).bind fun p2 =>
    some (some p2.1, p2.2)
  else
    some (none, p1.2)
theorem j_F_peek {P : ZP} {E : ZE} {A : Nat → Prop} (X : ZX E (zcV P) A "FrameMachine" b_F_peek 2 (some .int) 6 90) (s0 : ZS) (Y : ZY E (zcV P) A s0) (x1 : Int32) : ZK E 2 (zFt E (zcV P) A) 0 [(0, .ref (P.1 0)), (1, .int x1)] [] (f_F_peek s0 x1) := by
  unfold f_F_peek
  refine zk_iload_n 1 1 X kd_F_peek_0 rfl rfl rfl ?_
  refine zk_noWord 4 X kd_F_peek_1 (Nat.le_of_ble_eq_true rfl) (Nat.le_of_ble_eq_true rfl) (Nat.le_of_ble_eq_true rfl) rfl (fun p1 e1 => ?_)
  refine zk_if_eq 17 7 X kd_F_peek_4 rfl rfl (fun _ => ?_) (fun _ => ?_)
  · refine zk_zj e1 Y ?_
    refine zj_aload_n 18 0 X kd_F_peek_17 rfl rfl rfl ?_
    refine gf_F_21 21 X kd_F_peek_18 rfl ?_
    refine zj_iload_n 22 1 X kd_F_peek_21 rfl rfl rfl ?_
    refine zj_iconst 23 1 X kd_F_peek_22 ki_1 rfl ?_
    refine mc_F_73 26 X kd_F_peek_23 (Nat.le_of_ble_eq_true rfl) (Nat.le_of_ble_eq_true rfl) (Nat.le_of_ble_eq_true rfl) rfl (fun p2 => ?_)
    exact zj_tiret X kd_F_peek_26
  · exact zk_throw (ib := 71) e1 X Y (Nat.le_of_ble_eq_true rfl) (Nat.le_of_ble_eq_true rfl) (fun h => h.2.2.2.2.1) kd_F_peek_7 kd_F_peek_10 kd_F_peek_11 kd_F_peek_13 kd_F_peek_16
theorem ct_F_peek {l : Launch} (hl : l.stackTraces = false) {P : ZP} (hV : ZVok (zcV P)) (s0 : ZS) (sz : Nat) (x1 : Int32) {z : Option Int32 × ZS} (h : f_F_peek s0 x1 = some z) : zMt l y_F_peek b_F_peek 2 (some .int) 6 90 (zcV P) s0 sz [.ref (P.1 0), .int x1] z :=
  zMt_of (by decide +kernel) rfl rfl (Nat.le_of_ble_eq_true rfl) hV zc_T_grow hl (fun _ X Y => j_F_peek X s0 Y x1) h
-- FrameMachine.set(II)Z
abbrev b_F_set : ByteArray := prog_1_method_4_code
def y_F_set : MethodName := ⟨"FrameMachine", "set", "(II)Z"⟩
theorem kd_F_set_0 : decode b_F_set 0 = .ok (.iload_n 1, 1) := by decide +kernel
theorem kd_F_set_1 : decode b_F_set 1 = .ok (.ifCond .lt 9, 3) := by decide +kernel
theorem kd_F_set_4 : decode b_F_set 4 = .ok (.iload_n 1, 1) := by decide +kernel
theorem kd_F_set_5 : decode b_F_set 5 = .ok (.bipush 17, 2) := by decide +kernel
theorem kd_F_set_7 : decode b_F_set 7 = .ok (.if_icmp .le 13, 3) := by decide +kernel
theorem kd_F_set_10 : decode b_F_set 10 = .ok (.new 60, 3) := by decide +kernel
theorem kd_F_set_13 : decode b_F_set 13 = .ok (.dup, 1) := by decide +kernel
theorem kd_F_set_14 : decode b_F_set 14 = .ok (.ldc 77, 2) := by decide +kernel
theorem kd_F_set_16 : decode b_F_set 16 = .ok (.invokespecial 64, 3) := by decide +kernel
theorem kd_F_set_19 : decode b_F_set 19 = .ok (.athrow, 1) := by decide +kernel
theorem kd_F_set_20 : decode b_F_set 20 = .ok (.aload_n 0, 1) := by decide +kernel
theorem kd_F_set_21 : decode b_F_set 21 = .ok (.getfield 28, 3) := by decide +kernel
theorem kd_F_set_24 : decode b_F_set 24 = .ok (.iload_n 1, 1) := by decide +kernel
theorem kd_F_set_25 : decode b_F_set 25 = .ok (.iload_n 2, 1) := by decide +kernel
theorem kd_F_set_26 : decode b_F_set 26 = .ok (.invokevirtual 79, 3) := by decide +kernel
theorem kd_F_set_29 : decode b_F_set 29 = .ok (.iconst 1, 1) := by decide +kernel
theorem kd_F_set_30 : decode b_F_set 30 = .ok (.ireturn, 1) := by decide +kernel
noncomputable def f_F_set (s0 : ZS) (x1 : Int32) (x2 : Int32) : Option (Option Int32 × ZS) :=
  if x1 < 0 then
    some (none, s0)
  else
    if x1 ≤ 17 then
      (f_G_change s0 x1 x2).bind fun s1 =>
      some (some 1, s1)
    else
      some (none, s0)
theorem j_F_set {P : ZP} {E : ZE} {A : Nat → Prop} (X : ZX E (zcV P) A "FrameMachine" b_F_set 3 (some .boolean) 6 90) (s0 : ZS) (Y : ZY E (zcV P) A s0) (x1 : Int32) (x2 : Int32) : ZK E 3 (zFt E (zcV P) A) 0 [(0, .ref (P.1 0)), (1, .int x1), (2, .int x2)] [] (f_F_set s0 x1 x2) := by
  unfold f_F_set
  refine zk_iload_n 1 1 X kd_F_set_0 rfl rfl rfl ?_
  refine zk_if_lt 10 4 X kd_F_set_1 rfl rfl (fun _ => ?_) (fun _ => ?_)
  · exact zk_throw (ib := 77) rfl X Y (Nat.le_of_ble_eq_true rfl) (Nat.le_of_ble_eq_true rfl) (fun h => h.2.2.2.2.2.1) kd_F_set_10 kd_F_set_13 kd_F_set_14 kd_F_set_16 kd_F_set_19
  · refine zk_iload_n 5 1 X kd_F_set_4 rfl rfl rfl ?_
    refine zk_bipush 7 17 X kd_F_set_5 kb_17 rfl ?_
    refine zk_icmp_le 20 10 X kd_F_set_7 rfl rfl (fun _ => ?_) (fun _ => ?_)
    · refine zk_zj rfl Y ?_
      refine zj_aload_n 21 0 X kd_F_set_20 rfl rfl rfl ?_
      refine gf_F_28 24 X kd_F_set_21 rfl ?_
      refine zj_iload_n 25 1 X kd_F_set_24 rfl rfl rfl ?_
      refine zj_iload_n 26 2 X kd_F_set_25 rfl rfl rfl ?_
      refine mc_F_79 29 X kd_F_set_26 (Nat.le_of_ble_eq_true rfl) (Nat.le_of_ble_eq_true rfl) (Nat.le_of_ble_eq_true rfl) rfl (fun s1 => ?_)
      refine zj_iconst 30 1 X kd_F_set_29 ki_1 rfl ?_
      exact zj_tzret X kd_F_set_30 (Or.inr rfl)
    · exact zk_throw (ib := 77) rfl X Y (Nat.le_of_ble_eq_true rfl) (Nat.le_of_ble_eq_true rfl) (fun h => h.2.2.2.2.2.1) kd_F_set_10 kd_F_set_13 kd_F_set_14 kd_F_set_16 kd_F_set_19
theorem ct_F_set {l : Launch} (hl : l.stackTraces = false) {P : ZP} (hV : ZVok (zcV P)) (s0 : ZS) (sz : Nat) (x1 : Int32) (x2 : Int32) {z : Option Int32 × ZS} (h : f_F_set s0 x1 x2 = some z) : zMt l y_F_set b_F_set 3 (some .boolean) 6 90 (zcV P) s0 sz [.ref (P.1 0), .int x1, .int x2] z :=
  zMt_of (by decide +kernel) rfl rfl (Nat.le_of_ble_eq_true rfl) hV zc_T_grow hl (fun _ X Y => j_F_set X s0 Y x1 x2) h
-- FrameMachine.run(I)I
abbrev b_F_run : ByteArray := prog_1_method_6_code
def y_F_run : MethodName := ⟨"FrameMachine", "run", "(I)I"⟩
theorem kd_F_run_0 : decode b_F_run 0 = .ok (.iload_n 1, 1) := by decide +kernel
theorem kd_F_run_1 : decode b_F_run 1 = .ok (.iconst 1, 1) := by decide +kernel
theorem kd_F_run_2 : decode b_F_run 2 = .ok (.if_icmp .lt 9, 3) := by decide +kernel
theorem kd_F_run_5 : decode b_F_run 5 = .ok (.iload_n 1, 1) := by decide +kernel
theorem kd_F_run_6 : decode b_F_run 6 = .ok (.bipush 8, 2) := by decide +kernel
theorem kd_F_run_8 : decode b_F_run 8 = .ok (.if_icmp .le 13, 3) := by decide +kernel
theorem kd_F_run_11 : decode b_F_run 11 = .ok (.new 60, 3) := by decide +kernel
theorem kd_F_run_14 : decode b_F_run 14 = .ok (.dup, 1) := by decide +kernel
theorem kd_F_run_15 : decode b_F_run 15 = .ok (.ldc 91, 2) := by decide +kernel
theorem kd_F_run_17 : decode b_F_run 17 = .ok (.invokespecial 64, 3) := by decide +kernel
theorem kd_F_run_20 : decode b_F_run 20 = .ok (.athrow, 1) := by decide +kernel
theorem kd_F_run_21 : decode b_F_run 21 = .ok (.iconst 0, 1) := by decide +kernel
theorem kd_F_run_22 : decode b_F_run 22 = .ok (.istore_n 2, 1) := by decide +kernel
theorem kd_F_run_23 : decode b_F_run 23 = .ok (.iconst 0, 1) := by decide +kernel
theorem kd_F_run_24 : decode b_F_run 24 = .ok (.istore_n 3, 1) := by decide +kernel
theorem kd_F_run_25 : decode b_F_run 25 = .ok (.iload_n 3, 1) := by decide +kernel
theorem kd_F_run_26 : decode b_F_run 26 = .ok (.iload_n 1, 1) := by decide +kernel
theorem kd_F_run_27 : decode b_F_run 27 = .ok (.if_icmp .ge 22, 3) := by decide +kernel
theorem kd_F_run_30 : decode b_F_run 30 = .ok (.aload_n 0, 1) := by decide +kernel
theorem kd_F_run_31 : decode b_F_run 31 = .ok (.getfield 51, 3) := by decide +kernel
theorem kd_F_run_34 : decode b_F_run 34 = .ok (.invokevirtual 93, 3) := by decide +kernel
theorem kd_F_run_37 : decode b_F_run 37 = .ok (.ifCond .eq 6, 3) := by decide +kernel
theorem kd_F_run_40 : decode b_F_run 40 = .ok (.iinc 2 1, 3) := by decide +kernel
theorem kd_F_run_43 : decode b_F_run 43 = .ok (.iinc 3 1, 3) := by decide +kernel
theorem kd_F_run_46 : decode b_F_run 46 = .ok (.goto (-21), 3) := by decide +kernel
theorem kd_F_run_49 : decode b_F_run 49 = .ok (.iload_n 2, 1) := by decide +kernel
theorem kd_F_run_50 : decode b_F_run 50 = .ok (.ireturn, 1) := by decide +kernel
noncomputable def f_F_run_43 (K : ZS → Int32 → Int32 → Int32 → Option (Option Int32 × ZS)) (s0 : ZS) (l1 : Int32) (l2 : Int32) (l3 : Int32) : Option (Option Int32 × ZS) :=
  zs_nm (l3 + 1) fun v2 =>
  K s0 l1 l2 v2
noncomputable def f_F_run_25 : Nat → ZS → Int32 → Int32 → Int32 → Option (Option Int32 × ZS)
  | 0, _, _, _, _ => none
  | n+1, s0, l1, l2, l3 =>
    if l1 ≤ l3 then
      some (some l2, s0)
    else
      (f_P_step s0 ).bind fun p1 =>
      if p1.1 = 0 then
        f_F_run_43 (f_F_run_25 n) p1.2 l1 l2 l3
      else
        zs_nm (l2 + 1) fun v3 =>
        f_F_run_43 (f_F_run_25 n) p1.2 l1 v3 l3
noncomputable def f_F_run (s0 : ZS) (x1 : Int32) : Option (Option Int32 × ZS) :=
  if x1 < 1 then
    some (none, s0)
  else
    if x1 ≤ 8 then
      f_F_run_25 20 s0 x1 0 0
    else
      some (none, s0)
theorem j_F_run_43 {P : ZP} {E : ZE} {A : Nat → Prop} (X : ZX E (zcV P) A "FrameMachine" b_F_run 4 (some .int) 7 168) (K : ZS → Int32 → Int32 → Int32 → Option (Option Int32 × ZS)) (hK : ∀ (s0 : ZS) (l1 : Int32) (l2 : Int32) (l3 : Int32), ZJ E (zcV P) A 4 (zFt E (zcV P) A) 25 [(0, .ref (P.1 0)), (1, .int l1), (2, .int l2), (3, .int l3)] [] s0 (K s0 l1 l2 l3)) (s0 : ZS) (l1 : Int32) (l2 : Int32) (l3 : Int32) : ZJ E (zcV P) A 4 (zFt E (zcV P) A) 43 [(0, .ref (P.1 0)), (1, .int l1), (2, .int l2), (3, .int l3)] [] s0 (f_F_run_43 K s0 l1 l2 l3) := by
  unfold f_F_run_43
  refine zj_iinc 46 3 1 (fun v2 => [(3, .int v2), (0, .ref (P.1 0)), (1, .int l1), (2, .int l2)]) X kd_F_run_43 ki_1 rfl (Nat.le_of_ble_eq_true rfl) (fun _ => rfl) rfl (fun v2 => ?_)
  refine zj_goto 25 X kd_F_run_46 rfl ?_
  refine zj_loc [1, 2, 3, 0] (L2 := [(0, .ref (P.1 0)), (1, .int l1), (2, .int l2), (3, .int v2)]) rfl ?_
  exact hK s0 l1 l2 v2
theorem j_F_run_25 {P : ZP} {E : ZE} {A : Nat → Prop} (X : ZX E (zcV P) A "FrameMachine" b_F_run 4 (some .int) 7 168) : ∀ (n : Nat) (s0 : ZS) (l1 : Int32) (l2 : Int32) (l3 : Int32), ZJ E (zcV P) A 4 (zFt E (zcV P) A) 25 [(0, .ref (P.1 0)), (1, .int l1), (2, .int l2), (3, .int l3)] [] s0 (f_F_run_25 n s0 l1 l2 l3) := by
  intro n
  induction n with
  | zero => intro s0 l1 l2 l3; rw [f_F_run_25]; exact zj_none
  | succ n hK =>
    intro s0 l1 l2 l3
    rw [f_F_run_25]
    refine zj_iload_n 26 3 X kd_F_run_25 rfl rfl rfl ?_
    refine zj_iload_n 27 1 X kd_F_run_26 rfl rfl rfl ?_
    refine zj_icmp_ge 49 30 X kd_F_run_27 rfl rfl (fun _ => ?_) (fun _ => ?_)
    · refine zj_iload_n 50 2 X kd_F_run_49 rfl rfl rfl ?_
      exact zj_tiret X kd_F_run_50
    · refine zj_aload_n 31 0 X kd_F_run_30 rfl rfl rfl ?_
      refine gf_F_51 34 X kd_F_run_31 rfl ?_
      refine mc_F_93 37 X kd_F_run_34 (Nat.le_of_ble_eq_true rfl) (Nat.le_of_ble_eq_true rfl) (Nat.le_of_ble_eq_true rfl) rfl (fun p1 => ?_)
      refine zj_if_eq 43 40 X kd_F_run_37 rfl rfl (fun _ => ?_) (fun _ => ?_)
      · exact j_F_run_43 X (f_F_run_25 n) hK p1.2 l1 l2 l3
      · refine zj_iinc 43 2 1 (fun v3 => [(2, .int v3), (0, .ref (P.1 0)), (1, .int l1), (3, .int l3)]) X kd_F_run_40 ki_1 rfl (Nat.le_of_ble_eq_true rfl) (fun _ => rfl) rfl (fun v3 => ?_)
        refine zj_loc [1, 2, 0, 3] (L2 := [(0, .ref (P.1 0)), (1, .int l1), (2, .int v3), (3, .int l3)]) rfl ?_
        exact j_F_run_43 X (f_F_run_25 n) hK p1.2 l1 v3 l3
theorem j_F_run {P : ZP} {E : ZE} {A : Nat → Prop} (X : ZX E (zcV P) A "FrameMachine" b_F_run 4 (some .int) 7 168) (s0 : ZS) (Y : ZY E (zcV P) A s0) (x1 : Int32) : ZK E 4 (zFt E (zcV P) A) 0 [(0, .ref (P.1 0)), (1, .int x1)] [] (f_F_run s0 x1) := by
  unfold f_F_run
  refine zk_iload_n 1 1 X kd_F_run_0 rfl rfl rfl ?_
  refine zk_iconst 2 1 X kd_F_run_1 ki_1 rfl ?_
  refine zk_icmp_lt 11 5 X kd_F_run_2 rfl rfl (fun _ => ?_) (fun _ => ?_)
  · exact zk_throw (ib := 91) rfl X Y (Nat.le_of_ble_eq_true rfl) (Nat.le_of_ble_eq_true rfl) (fun h => h.2.2.2.2.2.2.1) kd_F_run_11 kd_F_run_14 kd_F_run_15 kd_F_run_17 kd_F_run_20
  · refine zk_iload_n 6 1 X kd_F_run_5 rfl rfl rfl ?_
    refine zk_bipush 8 8 X kd_F_run_6 kb_8 rfl ?_
    refine zk_icmp_le 21 11 X kd_F_run_8 rfl rfl (fun _ => ?_) (fun _ => ?_)
    · refine zk_iconst 22 0 X kd_F_run_21 ki_0 rfl ?_
      refine zk_zj rfl Y ?_
      refine zj_istore_n 23 [(2, .int 0), (0, .ref (P.1 0)), (1, .int x1)] X kd_F_run_22 rfl (Nat.le_of_ble_eq_true rfl) rfl rfl ?_
      refine zj_iconst 24 0 X kd_F_run_23 ki_0 rfl ?_
      refine zj_istore_n 25 [(3, .int 0), (2, .int 0), (0, .ref (P.1 0)), (1, .int x1)] X kd_F_run_24 rfl (Nat.le_of_ble_eq_true rfl) rfl rfl ?_
      refine zj_loc [2, 3, 1, 0] (L2 := [(0, .ref (P.1 0)), (1, .int x1), (2, .int 0), (3, .int 0)]) rfl ?_
      exact j_F_run_25 X 20 s0 x1 0 0
    · exact zk_throw (ib := 91) rfl X Y (Nat.le_of_ble_eq_true rfl) (Nat.le_of_ble_eq_true rfl) (fun h => h.2.2.2.2.2.2.1) kd_F_run_11 kd_F_run_14 kd_F_run_15 kd_F_run_17 kd_F_run_20
theorem ct_F_run {l : Launch} (hl : l.stackTraces = false) {P : ZP} (hV : ZVok (zcV P)) (s0 : ZS) (sz : Nat) (x1 : Int32) {z : Option Int32 × ZS} (h : f_F_run s0 x1 = some z) : zMt l y_F_run b_F_run 4 (some .int) 7 168 (zcV P) s0 sz [.ref (P.1 0), .int x1] z :=
  zMt_of (by decide +kernel) rfl rfl (Nat.le_of_ble_eq_true rfl) hV zc_T_grow hl (fun _ X Y => j_F_run X s0 Y x1) h
-- FrameMachine.comes(I)Z
abbrev b_F_comes : ByteArray := prog_1_method_7_code
def y_F_comes : MethodName := ⟨"FrameMachine", "comes", "(I)Z"⟩
theorem kd_F_comes_0 : decode b_F_comes 0 = .ok (.iload_n 1, 1) := by decide +kernel
theorem kd_F_comes_1 : decode b_F_comes 1 = .ok (.ifCond .lt 10, 3) := by decide +kernel
theorem kd_F_comes_4 : decode b_F_comes 4 = .ok (.iload_n 1, 1) := by decide +kernel
theorem kd_F_comes_5 : decode b_F_comes 5 = .ok (.sipush 255, 3) := by decide +kernel
theorem kd_F_comes_8 : decode b_F_comes 8 = .ok (.if_icmp .le 13, 3) := by decide +kernel
theorem kd_F_comes_11 : decode b_F_comes 11 = .ok (.new 60, 3) := by decide +kernel
theorem kd_F_comes_14 : decode b_F_comes 14 = .ok (.dup, 1) := by decide +kernel
theorem kd_F_comes_15 : decode b_F_comes 15 = .ok (.ldc 97, 2) := by decide +kernel
theorem kd_F_comes_17 : decode b_F_comes 17 = .ok (.invokespecial 64, 3) := by decide +kernel
theorem kd_F_comes_20 : decode b_F_comes 20 = .ok (.athrow, 1) := by decide +kernel
theorem kd_F_comes_21 : decode b_F_comes 21 = .ok (.aload_n 0, 1) := by decide +kernel
theorem kd_F_comes_22 : decode b_F_comes 22 = .ok (.getfield 12, 3) := by decide +kernel
theorem kd_F_comes_25 : decode b_F_comes 25 = .ok (.iload_n 1, 1) := by decide +kernel
theorem kd_F_comes_26 : decode b_F_comes 26 = .ok (.invokevirtual 99, 3) := by decide +kernel
theorem kd_F_comes_29 : decode b_F_comes 29 = .ok (.ireturn, 1) := by decide +kernel
noncomputable def f_F_comes (s0 : ZS) (x1 : Int32) : Option (Option Int32 × ZS) :=
  if x1 < 0 then
    some (none, s0)
  else
    if x1 ≤ 255 then
      (f_D_receive s0 x1).bind fun p1 =>
      if ¬ (p1.1 = 0 ∨ p1.1 = 1) then none else
      some (some p1.1, p1.2)
    else
      some (none, s0)
theorem j_F_comes {P : ZP} {E : ZE} {A : Nat → Prop} (X : ZX E (zcV P) A "FrameMachine" b_F_comes 2 (some .boolean) 6 90) (s0 : ZS) (Y : ZY E (zcV P) A s0) (x1 : Int32) : ZK E 2 (zFt E (zcV P) A) 0 [(0, .ref (P.1 0)), (1, .int x1)] [] (f_F_comes s0 x1) := by
  unfold f_F_comes
  refine zk_iload_n 1 1 X kd_F_comes_0 rfl rfl rfl ?_
  refine zk_if_lt 11 4 X kd_F_comes_1 rfl rfl (fun _ => ?_) (fun _ => ?_)
  · exact zk_throw (ib := 97) rfl X Y (Nat.le_of_ble_eq_true rfl) (Nat.le_of_ble_eq_true rfl) (fun h => h.2.2.2.2.2.2.2) kd_F_comes_11 kd_F_comes_14 kd_F_comes_15 kd_F_comes_17 kd_F_comes_20
  · refine zk_iload_n 5 1 X kd_F_comes_4 rfl rfl rfl ?_
    refine zk_sipush 8 255 X kd_F_comes_5 ks_255 rfl ?_
    refine zk_icmp_le 21 11 X kd_F_comes_8 rfl rfl (fun _ => ?_) (fun _ => ?_)
    · refine zk_zj rfl Y ?_
      refine zj_aload_n 22 0 X kd_F_comes_21 rfl rfl rfl ?_
      refine gf_F_12 25 X kd_F_comes_22 rfl ?_
      refine zj_iload_n 26 1 X kd_F_comes_25 rfl rfl rfl ?_
      refine mc_F_99 29 X kd_F_comes_26 (Nat.le_of_ble_eq_true rfl) (Nat.le_of_ble_eq_true rfl) (Nat.le_of_ble_eq_true rfl) rfl (fun p1 => ?_)
      refine zj_ng (fun hg => ?_)
      exact zj_tzret X kd_F_comes_29 (Decidable.not_not.mp hg)
    · exact zk_throw (ib := 97) rfl X Y (Nat.le_of_ble_eq_true rfl) (Nat.le_of_ble_eq_true rfl) (fun h => h.2.2.2.2.2.2.2) kd_F_comes_11 kd_F_comes_14 kd_F_comes_15 kd_F_comes_17 kd_F_comes_20
theorem ct_F_comes {l : Launch} (hl : l.stackTraces = false) {P : ZP} (hV : ZVok (zcV P)) (s0 : ZS) (sz : Nat) (x1 : Int32) {z : Option Int32 × ZS} (h : f_F_comes s0 x1 = some z) : zMt l y_F_comes b_F_comes 2 (some .boolean) 6 90 (zcV P) s0 sz [.ref (P.1 0), .int x1] z :=
  zMt_of (by decide +kernel) rfl rfl (Nat.le_of_ble_eq_true rfl) hV zc_T_grow hl (fun _ X Y => j_F_comes X s0 Y x1) h
-- FrameMachine.get(I)I
abbrev b_F_get : ByteArray := prog_1_method_9_code
def y_F_get : MethodName := ⟨"FrameMachine", "get", "(I)I"⟩
theorem kd_F_get_0 : decode b_F_get 0 = .ok (.iload_n 1, 1) := by decide +kernel
theorem kd_F_get_1 : decode b_F_get 1 = .ok (.ifCond .lt 9, 3) := by decide +kernel
theorem kd_F_get_4 : decode b_F_get 4 = .ok (.iload_n 1, 1) := by decide +kernel
theorem kd_F_get_5 : decode b_F_get 5 = .ok (.bipush 18, 2) := by decide +kernel
theorem kd_F_get_7 : decode b_F_get 7 = .ok (.if_icmp .le 13, 3) := by decide +kernel
theorem kd_F_get_10 : decode b_F_get 10 = .ok (.new 60, 3) := by decide +kernel
theorem kd_F_get_13 : decode b_F_get 13 = .ok (.dup, 1) := by decide +kernel
theorem kd_F_get_14 : decode b_F_get 14 = .ok (.ldc 77, 2) := by decide +kernel
theorem kd_F_get_16 : decode b_F_get 16 = .ok (.invokespecial 64, 3) := by decide +kernel
theorem kd_F_get_19 : decode b_F_get 19 = .ok (.athrow, 1) := by decide +kernel
theorem kd_F_get_20 : decode b_F_get 20 = .ok (.aload_n 0, 1) := by decide +kernel
theorem kd_F_get_21 : decode b_F_get 21 = .ok (.getfield 28, 3) := by decide +kernel
theorem kd_F_get_24 : decode b_F_get 24 = .ok (.iload_n 1, 1) := by decide +kernel
theorem kd_F_get_25 : decode b_F_get 25 = .ok (.invokevirtual 120, 3) := by decide +kernel
theorem kd_F_get_28 : decode b_F_get 28 = .ok (.ireturn, 1) := by decide +kernel
noncomputable def f_F_get (s0 : ZS) (x1 : Int32) : Option (Option Int32 × ZS) :=
  if x1 < 0 then
    some (none, s0)
  else
    if x1 ≤ 18 then
      (f_G_value s0 x1).bind fun p1 =>
      some (some p1.1, p1.2)
    else
      some (none, s0)
theorem j_F_get {P : ZP} {E : ZE} {A : Nat → Prop} (X : ZX E (zcV P) A "FrameMachine" b_F_get 2 (some .int) 6 90) (s0 : ZS) (Y : ZY E (zcV P) A s0) (x1 : Int32) : ZK E 2 (zFt E (zcV P) A) 0 [(0, .ref (P.1 0)), (1, .int x1)] [] (f_F_get s0 x1) := by
  unfold f_F_get
  refine zk_iload_n 1 1 X kd_F_get_0 rfl rfl rfl ?_
  refine zk_if_lt 10 4 X kd_F_get_1 rfl rfl (fun _ => ?_) (fun _ => ?_)
  · exact zk_throw (ib := 77) rfl X Y (Nat.le_of_ble_eq_true rfl) (Nat.le_of_ble_eq_true rfl) (fun h => h.2.2.2.2.2.1) kd_F_get_10 kd_F_get_13 kd_F_get_14 kd_F_get_16 kd_F_get_19
  · refine zk_iload_n 5 1 X kd_F_get_4 rfl rfl rfl ?_
    refine zk_bipush 7 18 X kd_F_get_5 kb_18 rfl ?_
    refine zk_icmp_le 20 10 X kd_F_get_7 rfl rfl (fun _ => ?_) (fun _ => ?_)
    · refine zk_zj rfl Y ?_
      refine zj_aload_n 21 0 X kd_F_get_20 rfl rfl rfl ?_
      refine gf_F_28 24 X kd_F_get_21 rfl ?_
      refine zj_iload_n 25 1 X kd_F_get_24 rfl rfl rfl ?_
      refine mc_F_120 28 X kd_F_get_25 (Nat.le_of_ble_eq_true rfl) (Nat.le_of_ble_eq_true rfl) (Nat.le_of_ble_eq_true rfl) rfl (fun p1 => ?_)
      exact zj_tiret X kd_F_get_28
    · exact zk_throw (ib := 77) rfl X Y (Nat.le_of_ble_eq_true rfl) (Nat.le_of_ble_eq_true rfl) (fun h => h.2.2.2.2.2.1) kd_F_get_10 kd_F_get_13 kd_F_get_14 kd_F_get_16 kd_F_get_19
theorem ct_F_get {l : Launch} (hl : l.stackTraces = false) {P : ZP} (hV : ZVok (zcV P)) (s0 : ZS) (sz : Nat) (x1 : Int32) {z : Option Int32 × ZS} (h : f_F_get s0 x1 = some z) : zMt l y_F_get b_F_get 2 (some .int) 6 90 (zcV P) s0 sz [.ref (P.1 0), .int x1] z :=
  zMt_of (by decide +kernel) rfl rfl (Nat.le_of_ble_eq_true rfl) hV zc_T_grow hl (fun _ X Y => j_F_get X s0 Y x1) h
