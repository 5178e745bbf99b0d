-- FrameMachineModel.difference(JJIZ)J
theorem kd_M_difference_0 : decode b_M_difference 0 = .ok (.lload_n 1, 1) := by decide +kernel
theorem kd_M_difference_1 : decode b_M_difference 1 = .ok (.lload_n 3, 1) := by decide +kernel
theorem kd_M_difference_2 : decode b_M_difference 2 = .ok (.lsub, 1) := by decide +kernel
theorem kd_M_difference_3 : decode b_M_difference 3 = .ok (.iload 5, 2) := by decide +kernel
theorem kd_M_difference_5 : decode b_M_difference 5 = .ok (.invokestatic 161, 3) := by decide +kernel
theorem kd_M_difference_8 : decode b_M_difference 8 = .ok (.lstore 7, 2) := by decide +kernel
theorem kd_M_difference_10 : decode b_M_difference 10 = .ok (.aload_n 0, 1) := by decide +kernel
theorem kd_M_difference_11 : decode b_M_difference 11 = .ok (.lload 7, 2) := by decide +kernel
theorem kd_M_difference_13 : decode b_M_difference 13 = .ok (.iload 5, 2) := by decide +kernel
theorem kd_M_difference_15 : decode b_M_difference 15 = .ok (.invokevirtual 170, 3) := by decide +kernel
theorem kd_M_difference_18 : decode b_M_difference 18 = .ok (.aload_n 0, 1) := by decide +kernel
theorem kd_M_difference_19 : decode b_M_difference 19 = .ok (.lload_n 1, 1) := by decide +kernel
theorem kd_M_difference_20 : decode b_M_difference 20 = .ok (.lload_n 3, 1) := by decide +kernel
theorem kd_M_difference_21 : decode b_M_difference 21 = .ok (.lcmp, 1) := by decide +kernel
theorem kd_M_difference_22 : decode b_M_difference 22 = .ok (.ifCond .ge 7, 3) := by decide +kernel
theorem kd_M_difference_25 : decode b_M_difference 25 = .ok (.iconst 1, 1) := by decide +kernel
theorem kd_M_difference_26 : decode b_M_difference 26 = .ok (.goto 4, 3) := by decide +kernel
theorem kd_M_difference_29 : decode b_M_difference 29 = .ok (.iconst 0, 1) := by decide +kernel
theorem kd_M_difference_30 : decode b_M_difference 30 = .ok (.putfield 134, 3) := by decide +kernel
theorem kd_M_difference_33 : decode b_M_difference 33 = .ok (.aload_n 0, 1) := by decide +kernel
theorem kd_M_difference_34 : decode b_M_difference 34 = .ok (.iload 6, 2) := by decide +kernel
theorem kd_M_difference_36 : decode b_M_difference 36 = .ok (.ifCond .eq 10, 3) := by decide +kernel
theorem kd_M_difference_39 : decode b_M_difference 39 = .ok (.aload_n 0, 1) := by decide +kernel
theorem kd_M_difference_40 : decode b_M_difference 40 = .ok (.getfield 122, 3) := by decide +kernel
theorem kd_M_difference_43 : decode b_M_difference 43 = .ok (.goto 7, 3) := by decide +kernel
theorem kd_M_difference_46 : decode b_M_difference 46 = .ok (.aload_n 0, 1) := by decide +kernel
theorem kd_M_difference_47 : decode b_M_difference 47 = .ok (.getfield 134, 3) := by decide +kernel
theorem kd_M_difference_50 : decode b_M_difference 50 = .ok (.putfield 122, 3) := by decide +kernel
theorem kd_M_difference_53 : decode b_M_difference 53 = .ok (.aload_n 0, 1) := by decide +kernel
theorem kd_M_difference_54 : decode b_M_difference 54 = .ok (.lload_n 1, 1) := by decide +kernel
theorem kd_M_difference_55 : decode b_M_difference 55 = .ok (.lload_n 3, 1) := by decide +kernel
theorem kd_M_difference_56 : decode b_M_difference 56 = .ok (.lxor, 1) := by decide +kernel
theorem kd_M_difference_57 : decode b_M_difference 57 = .ok (.lload_n 1, 1) := by decide +kernel
theorem kd_M_difference_58 : decode b_M_difference 58 = .ok (.lload 7, 2) := by decide +kernel
theorem kd_M_difference_60 : decode b_M_difference 60 = .ok (.lxor, 1) := by decide +kernel
theorem kd_M_difference_61 : decode b_M_difference 61 = .ok (.land, 1) := by decide +kernel
theorem kd_M_difference_62 : decode b_M_difference 62 = .ok (.iload 5, 2) := by decide +kernel
theorem kd_M_difference_64 : decode b_M_difference 64 = .ok (.invokestatic 144, 3) := by decide +kernel
theorem kd_M_difference_67 : decode b_M_difference 67 = .ok (.iconst 1, 1) := by decide +kernel
theorem kd_M_difference_68 : decode b_M_difference 68 = .ok (.isub, 1) := by decide +kernel
theorem kd_M_difference_69 : decode b_M_difference 69 = .ok (.lshr, 1) := by decide +kernel
theorem kd_M_difference_70 : decode b_M_difference 70 = .ok (.lconst 1, 1) := by decide +kernel
theorem kd_M_difference_71 : decode b_M_difference 71 = .ok (.land, 1) := by decide +kernel
theorem kd_M_difference_72 : decode b_M_difference 72 = .ok (.l2i, 1) := by decide +kernel
theorem kd_M_difference_73 : decode b_M_difference 73 = .ok (.putfield 131, 3) := by decide +kernel
theorem kd_M_difference_76 : decode b_M_difference 76 = .ok (.lload 7, 2) := by decide +kernel
theorem kd_M_difference_78 : decode b_M_difference 78 = .ok (.lreturn, 1) := by decide +kernel
noncomputable def f_M_difference_50 (s0 : ZS) (l1 : Int64) (l3 : Int64) (l5 : Int32) (l7 : Int64) (t0 : Int32) : Option (Int64 × ZS) :=
  zs_nm (zs_up s0 0 6 t0) fun s4 =>
  (f_M_bits s4 l5).bind fun p5 =>
  zs_nm (zs_up p5.2 0 9 (((zo_lshr ((l1 ^^^ l3) &&& (l1 ^^^ l7)) (p5.1 - 1)) &&& 1).toInt32)) fun s6 =>
  some (l7, s6)
noncomputable def f_M_difference_30 (s0 : ZS) (l1 : Int64) (l3 : Int64) (l5 : Int32) (l6 : Int32) (l7 : Int64) (t0 : Int32) : Option (Int64 × ZS) :=
  zs_nm (zs_up s0 0 10 t0) fun s3 =>
  if l6 = 0 then
    f_M_difference_50 s3 l1 l3 l5 l7 ((s3 0 10))
  else
    f_M_difference_50 s3 l1 l3 l5 l7 ((s3 0 6))
noncomputable def f_M_difference (s0 : ZS) (x1 : Int64) (x2 : Int64) (x3 : Int32) (x4 : Int32) : Option (Int64 × ZS) :=
  (f_M_cut s0 (x1 - x2) x3).bind fun p1 =>
  (f_M_tells p1.2 p1.1 x3).bind fun s2 =>
  if 0 ≤ (lg_cmp x1 x2) then
    f_M_difference_30 s2 x1 x2 x3 x4 p1.1 0
  else
    f_M_difference_30 s2 x1 x2 x3 x4 p1.1 1
theorem j_M_difference_50 {P : ZP} {E : ZE} {A : Nat → Prop} (X : ZX E (zmV P) A "FrameMachineModel" b_M_difference 9 (some .long) 2 43) (s0 : ZS) (l1 : Int64) (l3 : Int64) (l5 : Int32) (l7 : Int64) (t0 : Int32) : ZJ E (zmV P) A 9 (zFl E (zmV P) A) 50 [(0, .ref (P.1 0)), (1, .long l1), (3, .long l3), (5, .int l5), (7, .long l7)] [.int t0, .ref (P.1 0)] s0 (f_M_difference_50 s0 l1 l3 l5 l7 t0) := by
  unfold f_M_difference_50
  refine pf_M_122 53 X kd_M_difference_50 rfl ?_
  refine zj_nms (fun s4 => ?_)
  refine zj_aload_n 54 0 X kd_M_difference_53 rfl rfl rfl ?_
  refine zj_lload_n 55 1 X kd_M_difference_54 rfl rfl rfl ?_
  refine zj_lload_n 56 2 X kd_M_difference_55 rfl rfl rfl ?_
  refine zj_lxor 57 X kd_M_difference_56 rfl ?_
  refine zj_lload_n 58 1 X kd_M_difference_57 rfl rfl rfl ?_
  refine zj_lload 60 4 X kd_M_difference_58 rfl rfl ?_
  refine zj_lxor 61 X kd_M_difference_60 rfl ?_
  refine zj_land 62 X kd_M_difference_61 rfl ?_
  refine zj_iload 64 3 X kd_M_difference_62 rfl rfl ?_
  refine mc_M_144 67 X kd_M_difference_64 (Nat.le_of_ble_eq_true rfl) (Nat.le_of_ble_eq_true rfl) (Nat.le_of_ble_eq_true rfl) rfl (fun p5 => ?_)
  refine zj_iconst 68 1 X kd_M_difference_67 ki_1 rfl ?_
  refine zj_isub 69 X kd_M_difference_68 rfl ?_
  refine zj_lshr 70 X kd_M_difference_69 rfl ?_
  refine zj_lconst 71 1 X kd_M_difference_70 rfl rfl ?_
  refine zj_land 72 X kd_M_difference_71 rfl ?_
  refine zj_l2i 73 X kd_M_difference_72 rfl ?_
  refine pf_M_131 76 X kd_M_difference_73 rfl ?_
  refine zj_nms (fun s6 => ?_)
  refine zj_lload 78 4 X kd_M_difference_76 rfl rfl ?_
  exact zj_lret X kd_M_difference_78
theorem j_M_difference_30 {P : ZP} {E : ZE} {A : Nat → Prop} (X : ZX E (zmV P) A "FrameMachineModel" b_M_difference 9 (some .long) 2 43) (s0 : ZS) (l1 : Int64) (l3 : Int64) (l5 : Int32) (l6 : Int32) (l7 : Int64) (t0 : Int32) : ZJ E (zmV P) A 9 (zFl E (zmV P) A) 30 [(0, .ref (P.1 0)), (1, .long l1), (3, .long l3), (5, .int l5), (6, .int l6), (7, .long l7)] [.int t0, .ref (P.1 0)] s0 (f_M_difference_30 s0 l1 l3 l5 l6 l7 t0) := by
  unfold f_M_difference_30
  refine pf_M_134 33 X kd_M_difference_30 rfl ?_
  refine zj_nms (fun s3 => ?_)
  refine zj_aload_n 34 0 X kd_M_difference_33 rfl rfl rfl ?_
  refine zj_iload 36 4 X kd_M_difference_34 rfl rfl ?_
  refine zj_if_eq 46 39 X kd_M_difference_36 rfl rfl (fun _ => ?_) (fun _ => ?_)
  · refine zj_aload_n 47 0 X kd_M_difference_46 rfl rfl rfl ?_
    refine gf_M_134 50 X kd_M_difference_47 rfl ?_
    refine zj_loc [0, 1, 2, 3, 5] (L2 := [(0, .ref (P.1 0)), (1, .long l1), (3, .long l3), (5, .int l5), (7, .long l7)]) rfl ?_
    exact j_M_difference_50 X s3 l1 l3 l5 l7 ((s3 0 10))
  · refine zj_aload_n 40 0 X kd_M_difference_39 rfl rfl rfl ?_
    refine gf_M_122 43 X kd_M_difference_40 rfl ?_
    refine zj_goto 50 X kd_M_difference_43 rfl ?_
    refine zj_loc [0, 1, 2, 3, 5] (L2 := [(0, .ref (P.1 0)), (1, .long l1), (3, .long l3), (5, .int l5), (7, .long l7)]) rfl ?_
    exact j_M_difference_50 X s3 l1 l3 l5 l7 ((s3 0 6))
theorem j_M_difference {P : ZP} {E : ZE} {A : Nat → Prop} (X : ZX E (zmV P) A "FrameMachineModel" b_M_difference 9 (some .long) 2 43) (s0 : ZS) (x1 : Int64) (x2 : Int64) (x3 : Int32) (x4 : Int32) : ZJ E (zmV P) A 9 (zFl E (zmV P) A) 0 [(0, .ref (P.1 0)), (1, .long x1), (3, .long x2), (5, .int x3), (6, .int x4)] [] s0 (f_M_difference s0 x1 x2 x3 x4) := by
  unfold f_M_difference
  refine zj_lload_n 1 1 X kd_M_difference_0 rfl rfl rfl ?_
  refine zj_lload_n 2 2 X kd_M_difference_1 rfl rfl rfl ?_
  refine zj_lsub 3 X kd_M_difference_2 rfl ?_
  refine zj_iload 5 3 X kd_M_difference_3 rfl rfl ?_
  refine mc_M_161 8 X kd_M_difference_5 (Nat.le_of_ble_eq_true rfl) (Nat.le_of_ble_eq_true rfl) (Nat.le_of_ble_eq_true rfl) rfl (fun p1 => ?_)
  refine zj_lstore 10 [(7, .long p1.1), (0, .ref (P.1 0)), (1, .long x1), (3, .long x2), (5, .int x3), (6, .int x4)] X kd_M_difference_8 (Nat.le_of_ble_eq_true rfl) rfl rfl ?_
  refine zj_aload_n 11 1 X kd_M_difference_10 rfl rfl rfl ?_
  refine zj_lload 13 0 X kd_M_difference_11 rfl rfl ?_
  refine zj_iload 15 4 X kd_M_difference_13 rfl rfl ?_
  refine mc_M_170 18 X kd_M_difference_15 (Nat.le_of_ble_eq_true rfl) (Nat.le_of_ble_eq_true rfl) (Nat.le_of_ble_eq_true rfl) rfl (fun s2 => ?_)
  refine zj_aload_n 19 1 X kd_M_difference_18 rfl rfl rfl ?_
  refine zj_lload_n 20 2 X kd_M_difference_19 rfl rfl rfl ?_
  refine zj_lload_n 21 3 X kd_M_difference_20 rfl rfl rfl ?_
  refine zj_lcmp 22 X kd_M_difference_21 rfl ?_
  refine zj_if_ge 29 25 X kd_M_difference_22 rfl rfl (fun _ => ?_) (fun _ => ?_)
  · refine zj_iconst 30 0 X kd_M_difference_29 ki_0 rfl ?_
    refine zj_loc [1, 2, 3, 4, 5, 0] (L2 := [(0, .ref (P.1 0)), (1, .long x1), (3, .long x2), (5, .int x3), (6, .int x4), (7, .long p1.1)]) rfl ?_
    exact j_M_difference_30 X s2 x1 x2 x3 x4 p1.1 0
  · refine zj_iconst 26 1 X kd_M_difference_25 ki_1 rfl ?_
    refine zj_goto 30 X kd_M_difference_26 rfl ?_
    refine zj_loc [1, 2, 3, 4, 5, 0] (L2 := [(0, .ref (P.1 0)), (1, .long x1), (3, .long x2), (5, .int x3), (6, .int x4), (7, .long p1.1)]) rfl ?_
    exact j_M_difference_30 X s2 x1 x2 x3 x4 p1.1 1
theorem c_M_difference {l : Launch} {P : ZP} (hV : ZVok (zmV P)) (s0 : ZS) (x1 : Int64) (x2 : Int64) (x3 : Int32) (x4 : Int32) {z : Int64 × ZS} (h : f_M_difference s0 x1 x2 x3 x4 = some z) : zMl l y_M_difference b_M_difference 9 (some .long) 2 43 (zmV P) s0 [.ref (P.1 0), .long x1, .long x2, .int x3, .int x4] z :=
  zMl_of (by decide +kernel) rfl rfl (Nat.le_of_ble_eq_true rfl) hV (fun _ X => j_M_difference X s0 x1 x2 x3 x4) h
theorem kc_M_211 : zCV "FrameMachineModel" 211 y_M_difference b_M_difference 9 (some .long) 4 := ⟨⟨kw_1060, kw_1062, ksel_60, kw_11, kw_1063⟩, by decide +kernel, by decide +kernel, by decide +kernel⟩
theorem mc_M_211 {ρ : Type} {E : ZE} {P : ZP} {A : Nat → Prop} {cc : ByteArray} {nL : Nat} {ret : Option FieldType} {fr lo : Nat} {F : ρ → State → Prop} {pc : Nat} {L : List (Nat × Value)} {rest : List Value} {σ : ZS} {x1 : Int64} {x2 : Int64} {x3 : Int32} {x4 : Int32} {K : Int64 × ZS → Option ρ} (q : Nat) (X : ZX E (zmV P) A "FrameMachineModel" cc nL ret fr lo) (d : decode cc pc = .ok (.invokevirtual 211, 3)) (hfr : 2 + 1 ≤ fr) (hlo : 8 + (9 + 11) + 43 ≤ lo) (hr : (rest.map fun v => v.category).sum ≤ 8) (hq : pc + 3 = q) (kk : ∀ p : Int64 × ZS, ZJ E (zmV P) A nL F q L (.long p.1 :: rest) p.2 (K p)) : ZJ E (zmV P) A nL F pc L (.int x4 :: .int x3 :: .long x2 :: .long x1 :: .ref (P.1 0) :: rest) σ ((f_M_difference σ x1 x2 x3 x4).bind K) :=
  zj_cVl q 0 0 (As := [.long x1, .long x2, .int x3, .int x4]) (rest := rest) X kc_M_211 hfr hlo (fun p h => c_M_difference (zx_v X) σ x1 x2 x3 x4 h) rfl rfl rfl hr d hq kk
-- FrameMachineModel.shifts(IIII)V
theorem kd_M_shifts_0 : decode b_M_shifts 0 = .ok (.aload_n 0, 1) := by decide +kernel
theorem kd_M_shifts_1 : decode b_M_shifts 1 = .ok (.getfield 13, 3) := by decide +kernel
theorem kd_M_shifts_4 : decode b_M_shifts 4 = .ok (.iload_n 2, 1) := by decide +kernel
theorem kd_M_shifts_5 : decode b_M_shifts 5 = .ok (.iaload, 1) := by decide +kernel
theorem kd_M_shifts_6 : decode b_M_shifts 6 = .ok (.i2l, 1) := by decide +kernel
theorem kd_M_shifts_7 : decode b_M_shifts 7 = .ok (.iload_n 1, 1) := by decide +kernel
theorem kd_M_shifts_8 : decode b_M_shifts 8 = .ok (.invokestatic 161, 3) := by decide +kernel
theorem kd_M_shifts_11 : decode b_M_shifts 11 = .ok (.lstore 5, 2) := by decide +kernel
theorem kd_M_shifts_13 : decode b_M_shifts 13 = .ok (.iload_n 1, 1) := by decide +kernel
theorem kd_M_shifts_14 : decode b_M_shifts 14 = .ok (.invokestatic 144, 3) := by decide +kernel
theorem kd_M_shifts_17 : decode b_M_shifts 17 = .ok (.iconst 1, 1) := by decide +kernel
theorem kd_M_shifts_18 : decode b_M_shifts 18 = .ok (.isub, 1) := by decide +kernel
theorem kd_M_shifts_19 : decode b_M_shifts 19 = .ok (.istore 7, 2) := by decide +kernel
theorem kd_M_shifts_21 : decode b_M_shifts 21 = .ok (.iconst 0, 1) := by decide +kernel
theorem kd_M_shifts_22 : decode b_M_shifts 22 = .ok (.istore 8, 2) := by decide +kernel
theorem kd_M_shifts_24 : decode b_M_shifts 24 = .ok (.iconst 0, 1) := by decide +kernel
theorem kd_M_shifts_25 : decode b_M_shifts 25 = .ok (.istore 9, 2) := by decide +kernel
theorem kd_M_shifts_27 : decode b_M_shifts 27 = .ok (.iload 4, 2) := by decide +kernel
theorem kd_M_shifts_29 : decode b_M_shifts 29 = .ok (.ifCond .ne 8, 3) := by decide +kernel
theorem kd_M_shifts_32 : decode b_M_shifts 32 = .ok (.bipush 8, 2) := by decide +kernel
theorem kd_M_shifts_34 : decode b_M_shifts 34 = .ok (.goto 5, 3) := by decide +kernel
theorem kd_M_shifts_37 : decode b_M_shifts 37 = .ok (.iload 4, 2) := by decide +kernel
theorem kd_M_shifts_39 : decode b_M_shifts 39 = .ok (.istore 10, 2) := by decide +kernel
theorem kd_M_shifts_41 : decode b_M_shifts 41 = .ok (.iconst 0, 1) := by decide +kernel
theorem kd_M_shifts_42 : decode b_M_shifts 42 = .ok (.istore 11, 2) := by decide +kernel
theorem kd_M_shifts_44 : decode b_M_shifts 44 = .ok (.iload 11, 2) := by decide +kernel
theorem kd_M_shifts_46 : decode b_M_shifts 46 = .ok (.iload 10, 2) := by decide +kernel
theorem kd_M_shifts_48 : decode b_M_shifts 48 = .ok (.if_icmp .ge 137, 3) := by decide +kernel
theorem kd_M_shifts_51 : decode b_M_shifts 51 = .ok (.lload 5, 2) := by decide +kernel
theorem kd_M_shifts_53 : decode b_M_shifts 53 = .ok (.iload 7, 2) := by decide +kernel
theorem kd_M_shifts_55 : decode b_M_shifts 55 = .ok (.lshr, 1) := by decide +kernel
theorem kd_M_shifts_56 : decode b_M_shifts 56 = .ok (.lconst 1, 1) := by decide +kernel
theorem kd_M_shifts_57 : decode b_M_shifts 57 = .ok (.land, 1) := by decide +kernel
theorem kd_M_shifts_58 : decode b_M_shifts 58 = .ok (.lstore 12, 2) := by decide +kernel
theorem kd_M_shifts_60 : decode b_M_shifts 60 = .ok (.lload 5, 2) := by decide +kernel
theorem kd_M_shifts_62 : decode b_M_shifts 62 = .ok (.lconst 1, 1) := by decide +kernel
theorem kd_M_shifts_63 : decode b_M_shifts 63 = .ok (.land, 1) := by decide +kernel
theorem kd_M_shifts_64 : decode b_M_shifts 64 = .ok (.lstore 14, 2) := by decide +kernel
theorem kd_M_shifts_66 : decode b_M_shifts 66 = .ok (.iload_n 3, 1) := by decide +kernel
theorem kd_M_shifts_67 : decode b_M_shifts 67 = .ok (.iconst 2, 1) := by decide +kernel
theorem kd_M_shifts_68 : decode b_M_shifts 68 = .ok (.irem, 1) := by decide +kernel
theorem kd_M_shifts_69 : decode b_M_shifts 69 = .ok (.ifCond .ne 7, 3) := by decide +kernel
theorem kd_M_shifts_72 : decode b_M_shifts 72 = .ok (.iconst 1, 1) := by decide +kernel
theorem kd_M_shifts_73 : decode b_M_shifts 73 = .ok (.goto 4, 3) := by decide +kernel
theorem kd_M_shifts_76 : decode b_M_shifts 76 = .ok (.iconst 0, 1) := by decide +kernel
theorem kd_M_shifts_77 : decode b_M_shifts 77 = .ok (.istore 16, 2) := by decide +kernel
theorem kd_M_shifts_79 : decode b_M_shifts 79 = .ok (.iload_n 3, 1) := by decide +kernel
theorem kd_M_shifts_80 : decode b_M_shifts 80 = .ok (.iconst 1, 1) := by decide +kernel
theorem kd_M_shifts_81 : decode b_M_shifts 81 = .ok (.if_icmp .ne 8, 3) := by decide +kernel
theorem kd_M_shifts_84 : decode b_M_shifts 84 = .ok (.lload 12, 2) := by decide +kernel
theorem kd_M_shifts_86 : decode b_M_shifts 86 = .ok (.goto 24, 3) := by decide +kernel
theorem kd_M_shifts_89 : decode b_M_shifts 89 = .ok (.iload_n 3, 1) := by decide +kernel
theorem kd_M_shifts_90 : decode b_M_shifts 90 = .ok (.iconst 4, 1) := by decide +kernel
theorem kd_M_shifts_91 : decode b_M_shifts 91 = .ok (.if_icmp .ne 8, 3) := by decide +kernel
theorem kd_M_shifts_94 : decode b_M_shifts 94 = .ok (.lload 12, 2) := by decide +kernel
theorem kd_M_shifts_96 : decode b_M_shifts 96 = .ok (.goto 14, 3) := by decide +kernel
theorem kd_M_shifts_99 : decode b_M_shifts 99 = .ok (.iload_n 3, 1) := by decide +kernel
theorem kd_M_shifts_100 : decode b_M_shifts 100 = .ok (.iconst 5, 1) := by decide +kernel
theorem kd_M_shifts_101 : decode b_M_shifts 101 = .ok (.if_icmp .ne 8, 3) := by decide +kernel
theorem kd_M_shifts_104 : decode b_M_shifts 104 = .ok (.lload 14, 2) := by decide +kernel
theorem kd_M_shifts_106 : decode b_M_shifts 106 = .ok (.goto 4, 3) := by decide +kernel
theorem kd_M_shifts_109 : decode b_M_shifts 109 = .ok (.lconst 0, 1) := by decide +kernel
theorem kd_M_shifts_110 : decode b_M_shifts 110 = .ok (.lstore 17, 2) := by decide +kernel
theorem kd_M_shifts_112 : decode b_M_shifts 112 = .ok (.iload 16, 2) := by decide +kernel
theorem kd_M_shifts_114 : decode b_M_shifts 114 = .ok (.ifCond .eq 17, 3) := by decide +kernel
theorem kd_M_shifts_117 : decode b_M_shifts 117 = .ok (.lload 5, 2) := by decide +kernel
theorem kd_M_shifts_119 : decode b_M_shifts 119 = .ok (.iconst 1, 1) := by decide +kernel
theorem kd_M_shifts_120 : decode b_M_shifts 120 = .ok (.lshl, 1) := by decide +kernel
theorem kd_M_shifts_121 : decode b_M_shifts 121 = .ok (.iload_n 1, 1) := by decide +kernel
theorem kd_M_shifts_122 : decode b_M_shifts 122 = .ok (.invokestatic 161, 3) := by decide +kernel
theorem kd_M_shifts_125 : decode b_M_shifts 125 = .ok (.lload 17, 2) := by decide +kernel
theorem kd_M_shifts_127 : decode b_M_shifts 127 = .ok (.lor, 1) := by decide +kernel
theorem kd_M_shifts_128 : decode b_M_shifts 128 = .ok (.goto 13, 3) := by decide +kernel
theorem kd_M_shifts_131 : decode b_M_shifts 131 = .ok (.lload 5, 2) := by decide +kernel
theorem kd_M_shifts_133 : decode b_M_shifts 133 = .ok (.iconst 1, 1) := by decide +kernel
theorem kd_M_shifts_134 : decode b_M_shifts 134 = .ok (.lshr, 1) := by decide +kernel
theorem kd_M_shifts_135 : decode b_M_shifts 135 = .ok (.lload 17, 2) := by decide +kernel
theorem kd_M_shifts_137 : decode b_M_shifts 137 = .ok (.iload 7, 2) := by decide +kernel
theorem kd_M_shifts_139 : decode b_M_shifts 139 = .ok (.lshl, 1) := by decide +kernel
theorem kd_M_shifts_140 : decode b_M_shifts 140 = .ok (.lor, 1) := by decide +kernel
theorem kd_M_shifts_141 : decode b_M_shifts 141 = .ok (.lstore 5, 2) := by decide +kernel
theorem kd_M_shifts_143 : decode b_M_shifts 143 = .ok (.iload 16, 2) := by decide +kernel
theorem kd_M_shifts_145 : decode b_M_shifts 145 = .ok (.ifCond .eq 8, 3) := by decide +kernel
theorem kd_M_shifts_148 : decode b_M_shifts 148 = .ok (.lload 12, 2) := by decide +kernel
theorem kd_M_shifts_150 : decode b_M_shifts 150 = .ok (.goto 5, 3) := by decide +kernel
theorem kd_M_shifts_153 : decode b_M_shifts 153 = .ok (.lload 14, 2) := by decide +kernel
theorem kd_M_shifts_155 : decode b_M_shifts 155 = .ok (.l2i, 1) := by decide +kernel
theorem kd_M_shifts_156 : decode b_M_shifts 156 = .ok (.istore 9, 2) := by decide +kernel
theorem kd_M_shifts_158 : decode b_M_shifts 158 = .ok (.lload 5, 2) := by decide +kernel
theorem kd_M_shifts_160 : decode b_M_shifts 160 = .ok (.iload 7, 2) := by decide +kernel
theorem kd_M_shifts_162 : decode b_M_shifts 162 = .ok (.lshr, 1) := by decide +kernel
theorem kd_M_shifts_163 : decode b_M_shifts 163 = .ok (.lconst 1, 1) := by decide +kernel
theorem kd_M_shifts_164 : decode b_M_shifts 164 = .ok (.land, 1) := by decide +kernel
theorem kd_M_shifts_165 : decode b_M_shifts 165 = .ok (.lload 12, 2) := by decide +kernel
theorem kd_M_shifts_167 : decode b_M_shifts 167 = .ok (.lcmp, 1) := by decide +kernel
theorem kd_M_shifts_168 : decode b_M_shifts 168 = .ok (.ifCond .eq 7, 3) := by decide +kernel
theorem kd_M_shifts_171 : decode b_M_shifts 171 = .ok (.iconst 1, 1) := by decide +kernel
theorem kd_M_shifts_172 : decode b_M_shifts 172 = .ok (.goto 5, 3) := by decide +kernel
theorem kd_M_shifts_175 : decode b_M_shifts 175 = .ok (.iload 8, 2) := by decide +kernel
theorem kd_M_shifts_177 : decode b_M_shifts 177 = .ok (.istore 8, 2) := by decide +kernel
theorem kd_M_shifts_179 : decode b_M_shifts 179 = .ok (.iinc 11 1, 3) := by decide +kernel
theorem kd_M_shifts_182 : decode b_M_shifts 182 = .ok (.goto (-138), 3) := by decide +kernel
theorem kd_M_shifts_185 : decode b_M_shifts 185 = .ok (.aload_n 0, 1) := by decide +kernel
theorem kd_M_shifts_186 : decode b_M_shifts 186 = .ok (.lload 5, 2) := by decide +kernel
theorem kd_M_shifts_188 : decode b_M_shifts 188 = .ok (.iload_n 1, 1) := by decide +kernel
theorem kd_M_shifts_189 : decode b_M_shifts 189 = .ok (.invokevirtual 170, 3) := by decide +kernel
theorem kd_M_shifts_192 : decode b_M_shifts 192 = .ok (.aload_n 0, 1) := by decide +kernel
theorem kd_M_shifts_193 : decode b_M_shifts 193 = .ok (.iload_n 3, 1) := by decide +kernel
theorem kd_M_shifts_194 : decode b_M_shifts 194 = .ok (.ifCond .ne 8, 3) := by decide +kernel
theorem kd_M_shifts_197 : decode b_M_shifts 197 = .ok (.iload 8, 2) := by decide +kernel
theorem kd_M_shifts_199 : decode b_M_shifts 199 = .ok (.goto 4, 3) := by decide +kernel
theorem kd_M_shifts_202 : decode b_M_shifts 202 = .ok (.iconst 0, 1) := by decide +kernel
theorem kd_M_shifts_203 : decode b_M_shifts 203 = .ok (.putfield 131, 3) := by decide +kernel
theorem kd_M_shifts_206 : decode b_M_shifts 206 = .ok (.aload_n 0, 1) := by decide +kernel
theorem kd_M_shifts_207 : decode b_M_shifts 207 = .ok (.iload 9, 2) := by decide +kernel
theorem kd_M_shifts_209 : decode b_M_shifts 209 = .ok (.putfield 134, 3) := by decide +kernel
theorem kd_M_shifts_212 : decode b_M_shifts 212 = .ok (.aload_n 0, 1) := by decide +kernel
theorem kd_M_shifts_213 : decode b_M_shifts 213 = .ok (.iload_n 3, 1) := by decide +kernel
theorem kd_M_shifts_214 : decode b_M_shifts 214 = .ok (.iconst 4, 1) := by decide +kernel
theorem kd_M_shifts_215 : decode b_M_shifts 215 = .ok (.if_icmp .ge 8, 3) := by decide +kernel
theorem kd_M_shifts_218 : decode b_M_shifts 218 = .ok (.iload 9, 2) := by decide +kernel
theorem kd_M_shifts_220 : decode b_M_shifts 220 = .ok (.goto 7, 3) := by decide +kernel
theorem kd_M_shifts_223 : decode b_M_shifts 223 = .ok (.aload_n 0, 1) := by decide +kernel
theorem kd_M_shifts_224 : decode b_M_shifts 224 = .ok (.getfield 122, 3) := by decide +kernel
theorem kd_M_shifts_227 : decode b_M_shifts 227 = .ok (.putfield 122, 3) := by decide +kernel
theorem kd_M_shifts_230 : decode b_M_shifts 230 = .ok (.aload_n 0, 1) := by decide +kernel
theorem kd_M_shifts_231 : decode b_M_shifts 231 = .ok (.iload_n 2, 1) := by decide +kernel
theorem kd_M_shifts_232 : decode b_M_shifts 232 = .ok (.iload_n 1, 1) := by decide +kernel
theorem kd_M_shifts_233 : decode b_M_shifts 233 = .ok (.lload 5, 2) := by decide +kernel
theorem kd_M_shifts_235 : decode b_M_shifts 235 = .ok (.invokevirtual 167, 3) := by decide +kernel
theorem kd_M_shifts_238 : decode b_M_shifts 238 = .ok (.return_, 1) := by decide +kernel
noncomputable def f_M_shifts_227 (s0 : ZS) (l1 : Int32) (l2 : Int32) (l5 : Int64) (t0 : Int32) : Option (ZS) :=
  zs_nm (zs_up s0 0 6 t0) fun s7 =>
  (f_M_setD s7 l2 l1 l5).bind fun s8 =>
  some s8
noncomputable def f_M_shifts_203 (s0 : ZS) (l1 : Int32) (l2 : Int32) (l3 : Int32) (l5 : Int64) (l9 : Int32) (t0 : Int32) : Option (ZS) :=
  zs_nm (zs_up s0 0 9 t0) fun s5 =>
  zs_nm (zs_up s5 0 10 l9) fun s6 =>
  if 4 ≤ l3 then
    f_M_shifts_227 s6 l1 l2 l5 ((s6 0 6))
  else
    f_M_shifts_227 s6 l1 l2 l5 l9
noncomputable def f_M_shifts_177 (K : ZS → Int32 → Int32 → Int32 → Int64 → Int32 → Int32 → Int32 → Int32 → Int32 → Option (ZS)) (s0 : ZS) (l1 : Int32) (l2 : Int32) (l3 : Int32) (l5 : Int64) (l7 : Int32) (l9 : Int32) (l10 : Int32) (l11 : Int32) (t0 : Int32) : Option (ZS) :=
  zs_nm (l11 + 1) fun v12 =>
  K s0 l1 l2 l3 l5 l7 t0 l9 l10 v12
noncomputable def f_M_shifts_155 (K : ZS → Int32 → Int32 → Int32 → Int64 → Int32 → Int32 → Int32 → Int32 → Int32 → Option (ZS)) (s0 : ZS) (l1 : Int32) (l2 : Int32) (l3 : Int32) (l5 : Int64) (l7 : Int32) (l8 : Int32) (l10 : Int32) (l11 : Int32) (l12 : Int64) (t0 : Int64) : Option (ZS) :=
  zs_nm (t0.toInt32) fun v11 =>
  if (lg_cmp ((zo_lshr l5 l7) &&& 1) l12) = 0 then
    f_M_shifts_177 K s0 l1 l2 l3 l5 l7 v11 l10 l11 l8
  else
    f_M_shifts_177 K s0 l1 l2 l3 l5 l7 v11 l10 l11 1
noncomputable def f_M_shifts_141 (K : ZS → Int32 → Int32 → Int32 → Int64 → Int32 → Int32 → Int32 → Int32 → Int32 → Option (ZS)) (s0 : ZS) (l1 : Int32) (l2 : Int32) (l3 : Int32) (l7 : Int32) (l8 : Int32) (l10 : Int32) (l11 : Int32) (l12 : Int64) (l14 : Int64) (l16 : Int32) (t0 : Int64) : Option (ZS) :=
  if l16 = 0 then
    f_M_shifts_155 K s0 l1 l2 l3 t0 l7 l8 l10 l11 l12 l14
  else
    f_M_shifts_155 K s0 l1 l2 l3 t0 l7 l8 l10 l11 l12 l12
noncomputable def f_M_shifts_110 (K : ZS → Int32 → Int32 → Int32 → Int64 → Int32 → Int32 → Int32 → Int32 → Int32 → Option (ZS)) (s0 : ZS) (l1 : Int32) (l2 : Int32) (l3 : Int32) (l5 : Int64) (l7 : Int32) (l8 : Int32) (l10 : Int32) (l11 : Int32) (l12 : Int64) (l14 : Int64) (l16 : Int32) (t0 : Int64) : Option (ZS) :=
  if l16 = 0 then
    f_M_shifts_141 K s0 l1 l2 l3 l7 l8 l10 l11 l12 l14 l16 (((zo_lshr l5 1) ||| (zo_lshl t0 l7)))
  else
    (f_M_cut s0 (zo_lshl l5 1) l1).bind fun p13 =>
    f_M_shifts_141 K p13.2 l1 l2 l3 l7 l8 l10 l11 l12 l14 l16 ((p13.1 ||| t0))
noncomputable def f_M_shifts_77 (K : ZS → Int32 → Int32 → Int32 → Int64 → Int32 → Int32 → Int32 → Int32 → Int32 → Option (ZS)) (s0 : ZS) (l1 : Int32) (l2 : Int32) (l3 : Int32) (l5 : Int64) (l7 : Int32) (l8 : Int32) (l10 : Int32) (l11 : Int32) (l12 : Int64) (l14 : Int64) (t0 : Int32) : Option (ZS) :=
  if l3 = 1 then
    f_M_shifts_110 K s0 l1 l2 l3 l5 l7 l8 l10 l11 l12 l14 t0 l12
  else
    if l3 = 4 then
      f_M_shifts_110 K s0 l1 l2 l3 l5 l7 l8 l10 l11 l12 l14 t0 l12
    else
      if l3 = 5 then
        f_M_shifts_110 K s0 l1 l2 l3 l5 l7 l8 l10 l11 l12 l14 t0 l14
      else
        f_M_shifts_110 K s0 l1 l2 l3 l5 l7 l8 l10 l11 l12 l14 t0 0
noncomputable def f_M_shifts_44 : Nat → ZS → Int32 → Int32 → Int32 → Int64 → Int32 → Int32 → Int32 → Int32 → Int32 → Option (ZS)
  | 0, _, _, _, _, _, _, _, _, _, _ => none
  | n+1, s0, l1, l2, l3, l5, l7, l8, l9, l10, l11 =>
    if l10 ≤ l11 then
      (f_M_tells s0 l5 l1).bind fun s4 =>
      if l3 = 0 then
        f_M_shifts_203 s4 l1 l2 l3 l5 l9 l8
      else
        f_M_shifts_203 s4 l1 l2 l3 l5 l9 0
    else
      zs_nm ((zo_lshr l5 l7) &&& 1) fun v9 =>
      zs_nm (l5 &&& 1) fun v10 =>
      if (zo_irem l3 2) = 0 then
        f_M_shifts_77 (f_M_shifts_44 n) s0 l1 l2 l3 l5 l7 l8 l10 l11 v9 v10 1
      else
        f_M_shifts_77 (f_M_shifts_44 n) s0 l1 l2 l3 l5 l7 l8 l10 l11 v9 v10 0
noncomputable def f_M_shifts_39 (s0 : ZS) (l1 : Int32) (l2 : Int32) (l3 : Int32) (l5 : Int64) (l7 : Int32) (l8 : Int32) (l9 : Int32) (t0 : Int32) : Option (ZS) :=
  f_M_shifts_44 20 s0 l1 l2 l3 l5 l7 l8 l9 t0 0
noncomputable def f_M_shifts (s0 : ZS) (x1 : Int32) (x2 : Int32) (x3 : Int32) (x4 : Int32) : Option (ZS) :=
  if x2 < 0 ∨ 8 ≤ x2.toNatClampNeg then none else
  (f_M_cut s0 ((s0 2 x2.toNatClampNeg).toInt64) x1).bind fun p1 =>
  (f_M_bits p1.2 x1).bind fun p2 =>
  zs_nm (p2.1 - 1) fun v3 =>
  if x4 = 0 then
    f_M_shifts_39 p2.2 x1 x2 x3 p1.1 v3 0 0 8
  else
    f_M_shifts_39 p2.2 x1 x2 x3 p1.1 v3 0 0 x4
theorem j_M_shifts_227 {P : ZP} {E : ZE} {A : Nat → Prop} (X : ZX E (zmV P) A "FrameMachineModel" b_M_shifts 19 none 3 66) (s0 : ZS) (l1 : Int32) (l2 : Int32) (l5 : Int64) (t0 : Int32) : ZJ E (zmV P) A 19 (zFv E (zmV P) A) 227 [(0, .ref (P.1 0)), (1, .int l1), (2, .int l2), (5, .long l5)] [.int t0, .ref (P.1 0)] s0 (f_M_shifts_227 s0 l1 l2 l5 t0) := by
  unfold f_M_shifts_227
  refine pf_M_122 230 X kd_M_shifts_227 rfl ?_
  refine zj_nms (fun s7 => ?_)
  refine zj_aload_n 231 0 X kd_M_shifts_230 rfl rfl rfl ?_
  refine zj_iload_n 232 2 X kd_M_shifts_231 rfl rfl rfl ?_
  refine zj_iload_n 233 1 X kd_M_shifts_232 rfl rfl rfl ?_
  refine zj_lload 235 3 X kd_M_shifts_233 rfl rfl ?_
  refine mc_M_167 238 X kd_M_shifts_235 (Nat.le_of_ble_eq_true rfl) (Nat.le_of_ble_eq_true rfl) (Nat.le_of_ble_eq_true rfl) rfl (fun s8 => ?_)
  exact zj_vret X kd_M_shifts_238
theorem j_M_shifts_203 {P : ZP} {E : ZE} {A : Nat → Prop} (X : ZX E (zmV P) A "FrameMachineModel" b_M_shifts 19 none 3 66) (s0 : ZS) (l1 : Int32) (l2 : Int32) (l3 : Int32) (l5 : Int64) (l9 : Int32) (t0 : Int32) : ZJ E (zmV P) A 19 (zFv E (zmV P) A) 203 [(0, .ref (P.1 0)), (1, .int l1), (2, .int l2), (3, .int l3), (5, .long l5), (9, .int l9)] [.int t0, .ref (P.1 0)] s0 (f_M_shifts_203 s0 l1 l2 l3 l5 l9 t0) := by
  unfold f_M_shifts_203
  refine pf_M_131 206 X kd_M_shifts_203 rfl ?_
  refine zj_nms (fun s5 => ?_)
  refine zj_aload_n 207 0 X kd_M_shifts_206 rfl rfl rfl ?_
  refine zj_iload 209 5 X kd_M_shifts_207 rfl rfl ?_
  refine pf_M_134 212 X kd_M_shifts_209 rfl ?_
  refine zj_nms (fun s6 => ?_)
  refine zj_aload_n 213 0 X kd_M_shifts_212 rfl rfl rfl ?_
  refine zj_iload_n 214 3 X kd_M_shifts_213 rfl rfl rfl ?_
  refine zj_iconst 215 4 X kd_M_shifts_214 ki_4 rfl ?_
  refine zj_icmp_ge 223 218 X kd_M_shifts_215 rfl rfl (fun _ => ?_) (fun _ => ?_)
  · refine zj_aload_n 224 0 X kd_M_shifts_223 rfl rfl rfl ?_
    refine gf_M_122 227 X kd_M_shifts_224 rfl ?_
    refine zj_loc [0, 1, 2, 4] (L2 := [(0, .ref (P.1 0)), (1, .int l1), (2, .int l2), (5, .long l5)]) rfl ?_
    exact j_M_shifts_227 X s6 l1 l2 l5 ((s6 0 6))
  · refine zj_iload 220 5 X kd_M_shifts_218 rfl rfl ?_
    refine zj_goto 227 X kd_M_shifts_220 rfl ?_
    refine zj_loc [0, 1, 2, 4] (L2 := [(0, .ref (P.1 0)), (1, .int l1), (2, .int l2), (5, .long l5)]) rfl ?_
    exact j_M_shifts_227 X s6 l1 l2 l5 l9
theorem j_M_shifts_177 {P : ZP} {E : ZE} {A : Nat → Prop} (X : ZX E (zmV P) A "FrameMachineModel" b_M_shifts 19 none 3 66) (K : ZS → Int32 → Int32 → Int32 → Int64 → Int32 → Int32 → Int32 → Int32 → Int32 → Option (ZS)) (hK : ∀ (s0 : ZS) (l1 : Int32) (l2 : Int32) (l3 : Int32) (l5 : Int64) (l7 : Int32) (l8 : Int32) (l9 : Int32) (l10 : Int32) (l11 : Int32), ZJ E (zmV P) A 19 (zFv E (zmV P) A) 44 [(0, .ref (P.1 0)), (1, .int l1), (2, .int l2), (3, .int l3), (5, .long l5), (7, .int l7), (8, .int l8), (9, .int l9), (10, .int l10), (11, .int l11)] [] s0 (K s0 l1 l2 l3 l5 l7 l8 l9 l10 l11)) (s0 : ZS) (l1 : Int32) (l2 : Int32) (l3 : Int32) (l5 : Int64) (l7 : Int32) (l9 : Int32) (l10 : Int32) (l11 : Int32) (t0 : Int32) : ZJ E (zmV P) A 19 (zFv E (zmV P) A) 177 [(0, .ref (P.1 0)), (1, .int l1), (2, .int l2), (3, .int l3), (5, .long l5), (7, .int l7), (9, .int l9), (10, .int l10), (11, .int l11)] [.int t0] s0 (f_M_shifts_177 K s0 l1 l2 l3 l5 l7 l9 l10 l11 t0) := by
  unfold f_M_shifts_177
  refine zj_istore 179 [(8, .int t0), (0, .ref (P.1 0)), (1, .int l1), (2, .int l2), (3, .int l3), (5, .long l5), (7, .int l7), (9, .int l9), (10, .int l10), (11, .int l11)] X kd_M_shifts_177 (Nat.le_of_ble_eq_true rfl) rfl rfl ?_
  refine zj_iinc 182 9 1 (fun v12 => [(11, .int v12), (8, .int t0), (0, .ref (P.1 0)), (1, .int l1), (2, .int l2), (3, .int l3), (5, .long l5), (7, .int l7), (9, .int l9), (10, .int l10)]) X kd_M_shifts_179 ki_1 rfl (Nat.le_of_ble_eq_true rfl) (fun _ => rfl) rfl (fun v12 => ?_)
  refine zj_goto 44 X kd_M_shifts_182 rfl ?_
  refine zj_loc [2, 3, 4, 5, 6, 7, 1, 8, 9, 0] (L2 := [(0, .ref (P.1 0)), (1, .int l1), (2, .int l2), (3, .int l3), (5, .long l5), (7, .int l7), (8, .int t0), (9, .int l9), (10, .int l10), (11, .int v12)]) rfl ?_
  exact hK s0 l1 l2 l3 l5 l7 t0 l9 l10 v12
theorem j_M_shifts_155 {P : ZP} {E : ZE} {A : Nat → Prop} (X : ZX E (zmV P) A "FrameMachineModel" b_M_shifts 19 none 3 66) (K : ZS → Int32 → Int32 → Int32 → Int64 → Int32 → Int32 → Int32 → Int32 → Int32 → Option (ZS)) (hK : ∀ (s0 : ZS) (l1 : Int32) (l2 : Int32) (l3 : Int32) (l5 : Int64) (l7 : Int32) (l8 : Int32) (l9 : Int32) (l10 : Int32) (l11 : Int32), ZJ E (zmV P) A 19 (zFv E (zmV P) A) 44 [(0, .ref (P.1 0)), (1, .int l1), (2, .int l2), (3, .int l3), (5, .long l5), (7, .int l7), (8, .int l8), (9, .int l9), (10, .int l10), (11, .int l11)] [] s0 (K s0 l1 l2 l3 l5 l7 l8 l9 l10 l11)) (s0 : ZS) (l1 : Int32) (l2 : Int32) (l3 : Int32) (l5 : Int64) (l7 : Int32) (l8 : Int32) (l10 : Int32) (l11 : Int32) (l12 : Int64) (t0 : Int64) : ZJ E (zmV P) A 19 (zFv E (zmV P) A) 155 [(0, .ref (P.1 0)), (1, .int l1), (2, .int l2), (3, .int l3), (5, .long l5), (7, .int l7), (8, .int l8), (10, .int l10), (11, .int l11), (12, .long l12)] [.long t0] s0 (f_M_shifts_155 K s0 l1 l2 l3 l5 l7 l8 l10 l11 l12 t0) := by
  unfold f_M_shifts_155
  refine zj_l2i 156 X kd_M_shifts_155 rfl ?_
  refine zj_nmi (fun v11 => ?_)
  refine zj_istore 158 [(9, .int v11), (0, .ref (P.1 0)), (1, .int l1), (2, .int l2), (3, .int l3), (5, .long l5), (7, .int l7), (8, .int l8), (10, .int l10), (11, .int l11), (12, .long l12)] X kd_M_shifts_156 (Nat.le_of_ble_eq_true rfl) rfl rfl ?_
  refine zj_lload 160 5 X kd_M_shifts_158 rfl rfl ?_
  refine zj_iload 162 6 X kd_M_shifts_160 rfl rfl ?_
  refine zj_lshr 163 X kd_M_shifts_162 rfl ?_
  refine zj_lconst 164 1 X kd_M_shifts_163 rfl rfl ?_
  refine zj_land 165 X kd_M_shifts_164 rfl ?_
  refine zj_lload 167 10 X kd_M_shifts_165 rfl rfl ?_
  refine zj_lcmp 168 X kd_M_shifts_167 rfl ?_
  refine zj_if_eq 175 171 X kd_M_shifts_168 rfl rfl (fun _ => ?_) (fun _ => ?_)
  · refine zj_iload 177 7 X kd_M_shifts_175 rfl rfl ?_
    refine zj_loc [1, 2, 3, 4, 5, 6, 0, 8, 9] (L2 := [(0, .ref (P.1 0)), (1, .int l1), (2, .int l2), (3, .int l3), (5, .long l5), (7, .int l7), (9, .int v11), (10, .int l10), (11, .int l11)]) rfl ?_
    exact j_M_shifts_177 X K hK s0 l1 l2 l3 l5 l7 v11 l10 l11 l8
  · refine zj_iconst 172 1 X kd_M_shifts_171 ki_1 rfl ?_
    refine zj_goto 177 X kd_M_shifts_172 rfl ?_
    refine zj_loc [1, 2, 3, 4, 5, 6, 0, 8, 9] (L2 := [(0, .ref (P.1 0)), (1, .int l1), (2, .int l2), (3, .int l3), (5, .long l5), (7, .int l7), (9, .int v11), (10, .int l10), (11, .int l11)]) rfl ?_
    exact j_M_shifts_177 X K hK s0 l1 l2 l3 l5 l7 v11 l10 l11 1
theorem j_M_shifts_141 {P : ZP} {E : ZE} {A : Nat → Prop} (X : ZX E (zmV P) A "FrameMachineModel" b_M_shifts 19 none 3 66) (K : ZS → Int32 → Int32 → Int32 → Int64 → Int32 → Int32 → Int32 → Int32 → Int32 → Option (ZS)) (hK : ∀ (s0 : ZS) (l1 : Int32) (l2 : Int32) (l3 : Int32) (l5 : Int64) (l7 : Int32) (l8 : Int32) (l9 : Int32) (l10 : Int32) (l11 : Int32), ZJ E (zmV P) A 19 (zFv E (zmV P) A) 44 [(0, .ref (P.1 0)), (1, .int l1), (2, .int l2), (3, .int l3), (5, .long l5), (7, .int l7), (8, .int l8), (9, .int l9), (10, .int l10), (11, .int l11)] [] s0 (K s0 l1 l2 l3 l5 l7 l8 l9 l10 l11)) (s0 : ZS) (l1 : Int32) (l2 : Int32) (l3 : Int32) (l7 : Int32) (l8 : Int32) (l10 : Int32) (l11 : Int32) (l12 : Int64) (l14 : Int64) (l16 : Int32) (t0 : Int64) : ZJ E (zmV P) A 19 (zFv E (zmV P) A) 141 [(0, .ref (P.1 0)), (1, .int l1), (2, .int l2), (3, .int l3), (7, .int l7), (8, .int l8), (10, .int l10), (11, .int l11), (12, .long l12), (14, .long l14), (16, .int l16)] [.long t0] s0 (f_M_shifts_141 K s0 l1 l2 l3 l7 l8 l10 l11 l12 l14 l16 t0) := by
  unfold f_M_shifts_141
  refine zj_lstore 143 [(5, .long t0), (0, .ref (P.1 0)), (1, .int l1), (2, .int l2), (3, .int l3), (7, .int l7), (8, .int l8), (10, .int l10), (11, .int l11), (12, .long l12), (14, .long l14), (16, .int l16)] X kd_M_shifts_141 (Nat.le_of_ble_eq_true rfl) rfl rfl ?_
  refine zj_iload 145 11 X kd_M_shifts_143 rfl rfl ?_
  refine zj_if_eq 153 148 X kd_M_shifts_145 rfl rfl (fun _ => ?_) (fun _ => ?_)
  · refine zj_lload 155 10 X kd_M_shifts_153 rfl rfl ?_
    refine zj_loc [1, 2, 3, 4, 0, 5, 6, 7, 8, 9] (L2 := [(0, .ref (P.1 0)), (1, .int l1), (2, .int l2), (3, .int l3), (5, .long t0), (7, .int l7), (8, .int l8), (10, .int l10), (11, .int l11), (12, .long l12)]) rfl ?_
    exact j_M_shifts_155 X K hK s0 l1 l2 l3 t0 l7 l8 l10 l11 l12 l14
  · refine zj_lload 150 9 X kd_M_shifts_148 rfl rfl ?_
    refine zj_goto 155 X kd_M_shifts_150 rfl ?_
    refine zj_loc [1, 2, 3, 4, 0, 5, 6, 7, 8, 9] (L2 := [(0, .ref (P.1 0)), (1, .int l1), (2, .int l2), (3, .int l3), (5, .long t0), (7, .int l7), (8, .int l8), (10, .int l10), (11, .int l11), (12, .long l12)]) rfl ?_
    exact j_M_shifts_155 X K hK s0 l1 l2 l3 t0 l7 l8 l10 l11 l12 l12
theorem j_M_shifts_110 {P : ZP} {E : ZE} {A : Nat → Prop} (X : ZX E (zmV P) A "FrameMachineModel" b_M_shifts 19 none 3 66) (K : ZS → Int32 → Int32 → Int32 → Int64 → Int32 → Int32 → Int32 → Int32 → Int32 → Option (ZS)) (hK : ∀ (s0 : ZS) (l1 : Int32) (l2 : Int32) (l3 : Int32) (l5 : Int64) (l7 : Int32) (l8 : Int32) (l9 : Int32) (l10 : Int32) (l11 : Int32), ZJ E (zmV P) A 19 (zFv E (zmV P) A) 44 [(0, .ref (P.1 0)), (1, .int l1), (2, .int l2), (3, .int l3), (5, .long l5), (7, .int l7), (8, .int l8), (9, .int l9), (10, .int l10), (11, .int l11)] [] s0 (K s0 l1 l2 l3 l5 l7 l8 l9 l10 l11)) (s0 : ZS) (l1 : Int32) (l2 : Int32) (l3 : Int32) (l5 : Int64) (l7 : Int32) (l8 : Int32) (l10 : Int32) (l11 : Int32) (l12 : Int64) (l14 : Int64) (l16 : Int32) (t0 : Int64) : ZJ E (zmV P) A 19 (zFv E (zmV P) A) 110 [(0, .ref (P.1 0)), (1, .int l1), (2, .int l2), (3, .int l3), (5, .long l5), (7, .int l7), (8, .int l8), (10, .int l10), (11, .int l11), (12, .long l12), (14, .long l14), (16, .int l16)] [.long t0] s0 (f_M_shifts_110 K s0 l1 l2 l3 l5 l7 l8 l10 l11 l12 l14 l16 t0) := by
  unfold f_M_shifts_110
  refine zj_lstore 112 [(17, .long t0), (0, .ref (P.1 0)), (1, .int l1), (2, .int l2), (3, .int l3), (5, .long l5), (7, .int l7), (8, .int l8), (10, .int l10), (11, .int l11), (12, .long l12), (14, .long l14), (16, .int l16)] X kd_M_shifts_110 (Nat.le_of_ble_eq_true rfl) rfl rfl ?_
  refine zj_iload 114 12 X kd_M_shifts_112 rfl rfl ?_
  refine zj_if_eq 131 117 X kd_M_shifts_114 rfl rfl (fun _ => ?_) (fun _ => ?_)
  · refine zj_lload 133 5 X kd_M_shifts_131 rfl rfl ?_
    refine zj_iconst 134 1 X kd_M_shifts_133 ki_1 rfl ?_
    refine zj_lshr 135 X kd_M_shifts_134 rfl ?_
    refine zj_lload 137 0 X kd_M_shifts_135 rfl rfl ?_
    refine zj_iload 139 6 X kd_M_shifts_137 rfl rfl ?_
    refine zj_lshl 140 X kd_M_shifts_139 rfl ?_
    refine zj_lor 141 X kd_M_shifts_140 rfl ?_
    refine zj_loc [1, 2, 3, 4, 6, 7, 8, 9, 10, 11, 12] (L2 := [(0, .ref (P.1 0)), (1, .int l1), (2, .int l2), (3, .int l3), (7, .int l7), (8, .int l8), (10, .int l10), (11, .int l11), (12, .long l12), (14, .long l14), (16, .int l16)]) rfl ?_
    exact j_M_shifts_141 X K hK s0 l1 l2 l3 l7 l8 l10 l11 l12 l14 l16 (((zo_lshr l5 1) ||| (zo_lshl t0 l7)))
  · refine zj_lload 119 5 X kd_M_shifts_117 rfl rfl ?_
    refine zj_iconst 120 1 X kd_M_shifts_119 ki_1 rfl ?_
    refine zj_lshl 121 X kd_M_shifts_120 rfl ?_
    refine zj_iload_n 122 2 X kd_M_shifts_121 rfl rfl rfl ?_
    refine mc_M_161 125 X kd_M_shifts_122 (Nat.le_of_ble_eq_true rfl) (Nat.le_of_ble_eq_true rfl) (Nat.le_of_ble_eq_true rfl) rfl (fun p13 => ?_)
    refine zj_lload 127 0 X kd_M_shifts_125 rfl rfl ?_
    refine zj_lor 128 X kd_M_shifts_127 rfl ?_
    refine zj_goto 141 X kd_M_shifts_128 rfl ?_
    refine zj_loc [1, 2, 3, 4, 6, 7, 8, 9, 10, 11, 12] (L2 := [(0, .ref (P.1 0)), (1, .int l1), (2, .int l2), (3, .int l3), (7, .int l7), (8, .int l8), (10, .int l10), (11, .int l11), (12, .long l12), (14, .long l14), (16, .int l16)]) rfl ?_
    exact j_M_shifts_141 X K hK p13.2 l1 l2 l3 l7 l8 l10 l11 l12 l14 l16 ((p13.1 ||| t0))
theorem j_M_shifts_77 {P : ZP} {E : ZE} {A : Nat → Prop} (X : ZX E (zmV P) A "FrameMachineModel" b_M_shifts 19 none 3 66) (K : ZS → Int32 → Int32 → Int32 → Int64 → Int32 → Int32 → Int32 → Int32 → Int32 → Option (ZS)) (hK : ∀ (s0 : ZS) (l1 : Int32) (l2 : Int32) (l3 : Int32) (l5 : Int64) (l7 : Int32) (l8 : Int32) (l9 : Int32) (l10 : Int32) (l11 : Int32), ZJ E (zmV P) A 19 (zFv E (zmV P) A) 44 [(0, .ref (P.1 0)), (1, .int l1), (2, .int l2), (3, .int l3), (5, .long l5), (7, .int l7), (8, .int l8), (9, .int l9), (10, .int l10), (11, .int l11)] [] s0 (K s0 l1 l2 l3 l5 l7 l8 l9 l10 l11)) (s0 : ZS) (l1 : Int32) (l2 : Int32) (l3 : Int32) (l5 : Int64) (l7 : Int32) (l8 : Int32) (l10 : Int32) (l11 : Int32) (l12 : Int64) (l14 : Int64) (t0 : Int32) : ZJ E (zmV P) A 19 (zFv E (zmV P) A) 77 [(0, .ref (P.1 0)), (1, .int l1), (2, .int l2), (3, .int l3), (5, .long l5), (7, .int l7), (8, .int l8), (10, .int l10), (11, .int l11), (12, .long l12), (14, .long l14)] [.int t0] s0 (f_M_shifts_77 K s0 l1 l2 l3 l5 l7 l8 l10 l11 l12 l14 t0) := by
  unfold f_M_shifts_77
  refine zj_istore 79 [(16, .int t0), (0, .ref (P.1 0)), (1, .int l1), (2, .int l2), (3, .int l3), (5, .long l5), (7, .int l7), (8, .int l8), (10, .int l10), (11, .int l11), (12, .long l12), (14, .long l14)] X kd_M_shifts_77 (Nat.le_of_ble_eq_true rfl) rfl rfl ?_
  refine zj_iload_n 80 4 X kd_M_shifts_79 rfl rfl rfl ?_
  refine zj_iconst 81 1 X kd_M_shifts_80 ki_1 rfl ?_
  refine zj_icmp_ne 89 84 X kd_M_shifts_81 rfl rfl (fun _ => ?_) (fun _ => ?_)
  · refine zj_lload 86 10 X kd_M_shifts_84 rfl rfl ?_
    refine zj_goto 110 X kd_M_shifts_86 rfl ?_
    refine zj_loc [1, 2, 3, 4, 5, 6, 7, 8, 9, 10, 11, 0] (L2 := [(0, .ref (P.1 0)), (1, .int l1), (2, .int l2), (3, .int l3), (5, .long l5), (7, .int l7), (8, .int l8), (10, .int l10), (11, .int l11), (12, .long l12), (14, .long l14), (16, .int t0)]) rfl ?_
    exact j_M_shifts_110 X K hK s0 l1 l2 l3 l5 l7 l8 l10 l11 l12 l14 t0 l12
  · refine zj_iload_n 90 4 X kd_M_shifts_89 rfl rfl rfl ?_
    refine zj_iconst 91 4 X kd_M_shifts_90 ki_4 rfl ?_
    refine zj_icmp_ne 99 94 X kd_M_shifts_91 rfl rfl (fun _ => ?_) (fun _ => ?_)
    · refine zj_lload 96 10 X kd_M_shifts_94 rfl rfl ?_
      refine zj_goto 110 X kd_M_shifts_96 rfl ?_
      refine zj_loc [1, 2, 3, 4, 5, 6, 7, 8, 9, 10, 11, 0] (L2 := [(0, .ref (P.1 0)), (1, .int l1), (2, .int l2), (3, .int l3), (5, .long l5), (7, .int l7), (8, .int l8), (10, .int l10), (11, .int l11), (12, .long l12), (14, .long l14), (16, .int t0)]) rfl ?_
      exact j_M_shifts_110 X K hK s0 l1 l2 l3 l5 l7 l8 l10 l11 l12 l14 t0 l12
    · refine zj_iload_n 100 4 X kd_M_shifts_99 rfl rfl rfl ?_
      refine zj_iconst 101 5 X kd_M_shifts_100 ki_5 rfl ?_
      refine zj_icmp_ne 109 104 X kd_M_shifts_101 rfl rfl (fun _ => ?_) (fun _ => ?_)
      · refine zj_lload 106 11 X kd_M_shifts_104 rfl rfl ?_
        refine zj_goto 110 X kd_M_shifts_106 rfl ?_
        refine zj_loc [1, 2, 3, 4, 5, 6, 7, 8, 9, 10, 11, 0] (L2 := [(0, .ref (P.1 0)), (1, .int l1), (2, .int l2), (3, .int l3), (5, .long l5), (7, .int l7), (8, .int l8), (10, .int l10), (11, .int l11), (12, .long l12), (14, .long l14), (16, .int t0)]) rfl ?_
        exact j_M_shifts_110 X K hK s0 l1 l2 l3 l5 l7 l8 l10 l11 l12 l14 t0 l14
      · refine zj_lconst 110 0 X kd_M_shifts_109 rfl rfl ?_
        refine zj_loc [1, 2, 3, 4, 5, 6, 7, 8, 9, 10, 11, 0] (L2 := [(0, .ref (P.1 0)), (1, .int l1), (2, .int l2), (3, .int l3), (5, .long l5), (7, .int l7), (8, .int l8), (10, .int l10), (11, .int l11), (12, .long l12), (14, .long l14), (16, .int t0)]) rfl ?_
        exact j_M_shifts_110 X K hK s0 l1 l2 l3 l5 l7 l8 l10 l11 l12 l14 t0 0
theorem j_M_shifts_44 {P : ZP} {E : ZE} {A : Nat → Prop} (X : ZX E (zmV P) A "FrameMachineModel" b_M_shifts 19 none 3 66) : ∀ (n : Nat) (s0 : ZS) (l1 : Int32) (l2 : Int32) (l3 : Int32) (l5 : Int64) (l7 : Int32) (l8 : Int32) (l9 : Int32) (l10 : Int32) (l11 : Int32), ZJ E (zmV P) A 19 (zFv E (zmV P) A) 44 [(0, .ref (P.1 0)), (1, .int l1), (2, .int l2), (3, .int l3), (5, .long l5), (7, .int l7), (8, .int l8), (9, .int l9), (10, .int l10), (11, .int l11)] [] s0 (f_M_shifts_44 n s0 l1 l2 l3 l5 l7 l8 l9 l10 l11) := by
  intro n
  induction n with
  | zero => intro s0 l1 l2 l3 l5 l7 l8 l9 l10 l11; rw [f_M_shifts_44]; exact zj_none
  | succ n hK =>
    intro s0 l1 l2 l3 l5 l7 l8 l9 l10 l11
    rw [f_M_shifts_44]
    refine zj_iload 46 9 X kd_M_shifts_44 rfl rfl ?_
    refine zj_iload 48 8 X kd_M_shifts_46 rfl rfl ?_
    refine zj_icmp_ge 185 51 X kd_M_shifts_48 rfl rfl (fun _ => ?_) (fun _ => ?_)
    · refine zj_aload_n 186 0 X kd_M_shifts_185 rfl rfl rfl ?_
      refine zj_lload 188 4 X kd_M_shifts_186 rfl rfl ?_
      refine zj_iload_n 189 1 X kd_M_shifts_188 rfl rfl rfl ?_
      refine mc_M_170 192 X kd_M_shifts_189 (Nat.le_of_ble_eq_true rfl) (Nat.le_of_ble_eq_true rfl) (Nat.le_of_ble_eq_true rfl) rfl (fun s4 => ?_)
      refine zj_aload_n 193 0 X kd_M_shifts_192 rfl rfl rfl ?_
      refine zj_iload_n 194 3 X kd_M_shifts_193 rfl rfl rfl ?_
      refine zj_if_ne 202 197 X kd_M_shifts_194 rfl rfl (fun _ => ?_) (fun _ => ?_)
      · refine zj_iload 199 6 X kd_M_shifts_197 rfl rfl ?_
        refine zj_goto 203 X kd_M_shifts_199 rfl ?_
        refine zj_loc [0, 1, 2, 3, 4, 7] (L2 := [(0, .ref (P.1 0)), (1, .int l1), (2, .int l2), (3, .int l3), (5, .long l5), (9, .int l9)]) rfl ?_
        exact j_M_shifts_203 X s4 l1 l2 l3 l5 l9 l8
      · refine zj_iconst 203 0 X kd_M_shifts_202 ki_0 rfl ?_
        refine zj_loc [0, 1, 2, 3, 4, 7] (L2 := [(0, .ref (P.1 0)), (1, .int l1), (2, .int l2), (3, .int l3), (5, .long l5), (9, .int l9)]) rfl ?_
        exact j_M_shifts_203 X s4 l1 l2 l3 l5 l9 0
    · refine zj_lload 53 4 X kd_M_shifts_51 rfl rfl ?_
      refine zj_iload 55 5 X kd_M_shifts_53 rfl rfl ?_
      refine zj_lshr 56 X kd_M_shifts_55 rfl ?_
      refine zj_lconst 57 1 X kd_M_shifts_56 rfl rfl ?_
      refine zj_land 58 X kd_M_shifts_57 rfl ?_
      refine zj_nml (fun v9 => ?_)
      refine zj_lstore 60 [(12, .long v9), (0, .ref (P.1 0)), (1, .int l1), (2, .int l2), (3, .int l3), (5, .long l5), (7, .int l7), (8, .int l8), (9, .int l9), (10, .int l10), (11, .int l11)] X kd_M_shifts_58 (Nat.le_of_ble_eq_true rfl) rfl rfl ?_
      refine zj_lload 62 5 X kd_M_shifts_60 rfl rfl ?_
      refine zj_lconst 63 1 X kd_M_shifts_62 rfl rfl ?_
      refine zj_land 64 X kd_M_shifts_63 rfl ?_
      refine zj_nml (fun v10 => ?_)
      refine zj_lstore 66 [(14, .long v10), (12, .long v9), (0, .ref (P.1 0)), (1, .int l1), (2, .int l2), (3, .int l3), (5, .long l5), (7, .int l7), (8, .int l8), (9, .int l9), (10, .int l10), (11, .int l11)] X kd_M_shifts_64 (Nat.le_of_ble_eq_true rfl) rfl rfl ?_
      refine zj_iload_n 67 5 X kd_M_shifts_66 rfl rfl rfl ?_
      refine zj_iconst 68 2 X kd_M_shifts_67 ki_2 rfl ?_
      refine zj_irem 69 X kd_M_shifts_68 (by decide) rfl ?_
      refine zj_if_ne 76 72 X kd_M_shifts_69 rfl rfl (fun _ => ?_) (fun _ => ?_)
      · refine zj_iconst 73 1 X kd_M_shifts_72 ki_1 rfl ?_
        refine zj_goto 77 X kd_M_shifts_73 rfl ?_
        refine zj_loc [2, 3, 4, 5, 6, 7, 8, 10, 11, 1, 0] (L2 := [(0, .ref (P.1 0)), (1, .int l1), (2, .int l2), (3, .int l3), (5, .long l5), (7, .int l7), (8, .int l8), (10, .int l10), (11, .int l11), (12, .long v9), (14, .long v10)]) rfl ?_
        exact j_M_shifts_77 X (f_M_shifts_44 n) hK s0 l1 l2 l3 l5 l7 l8 l10 l11 v9 v10 1
      · refine zj_iconst 77 0 X kd_M_shifts_76 ki_0 rfl ?_
        refine zj_loc [2, 3, 4, 5, 6, 7, 8, 10, 11, 1, 0] (L2 := [(0, .ref (P.1 0)), (1, .int l1), (2, .int l2), (3, .int l3), (5, .long l5), (7, .int l7), (8, .int l8), (10, .int l10), (11, .int l11), (12, .long v9), (14, .long v10)]) rfl ?_
        exact j_M_shifts_77 X (f_M_shifts_44 n) hK s0 l1 l2 l3 l5 l7 l8 l10 l11 v9 v10 0
theorem j_M_shifts_39 {P : ZP} {E : ZE} {A : Nat → Prop} (X : ZX E (zmV P) A "FrameMachineModel" b_M_shifts 19 none 3 66) (s0 : ZS) (l1 : Int32) (l2 : Int32) (l3 : Int32) (l5 : Int64) (l7 : Int32) (l8 : Int32) (l9 : Int32) (t0 : Int32) : ZJ E (zmV P) A 19 (zFv E (zmV P) A) 39 [(0, .ref (P.1 0)), (1, .int l1), (2, .int l2), (3, .int l3), (5, .long l5), (7, .int l7), (8, .int l8), (9, .int l9)] [.int t0] s0 (f_M_shifts_39 s0 l1 l2 l3 l5 l7 l8 l9 t0) := by
  unfold f_M_shifts_39
  refine zj_istore 41 [(10, .int t0), (0, .ref (P.1 0)), (1, .int l1), (2, .int l2), (3, .int l3), (5, .long l5), (7, .int l7), (8, .int l8), (9, .int l9)] X kd_M_shifts_39 (Nat.le_of_ble_eq_true rfl) rfl rfl ?_
  refine zj_iconst 42 0 X kd_M_shifts_41 ki_0 rfl ?_
  refine zj_istore 44 [(11, .int 0), (10, .int t0), (0, .ref (P.1 0)), (1, .int l1), (2, .int l2), (3, .int l3), (5, .long l5), (7, .int l7), (8, .int l8), (9, .int l9)] X kd_M_shifts_42 (Nat.le_of_ble_eq_true rfl) rfl rfl ?_
  refine zj_loc [2, 3, 4, 5, 6, 7, 8, 9, 1, 0] (L2 := [(0, .ref (P.1 0)), (1, .int l1), (2, .int l2), (3, .int l3), (5, .long l5), (7, .int l7), (8, .int l8), (9, .int l9), (10, .int t0), (11, .int 0)]) rfl ?_
  exact j_M_shifts_44 X 20 s0 l1 l2 l3 l5 l7 l8 l9 t0 0
theorem j_M_shifts {P : ZP} {E : ZE} {A : Nat → Prop} (X : ZX E (zmV P) A "FrameMachineModel" b_M_shifts 19 none 3 66) (s0 : ZS) (x1 : Int32) (x2 : Int32) (x3 : Int32) (x4 : Int32) : ZJ E (zmV P) A 19 (zFv E (zmV P) A) 0 [(0, .ref (P.1 0)), (1, .int x1), (2, .int x2), (3, .int x3), (4, .int x4)] [] s0 (f_M_shifts s0 x1 x2 x3 x4) := by
  unfold f_M_shifts
  refine zj_aload_n 1 0 X kd_M_shifts_0 rfl rfl rfl ?_
  refine gf_M_13 4 X kd_M_shifts_1 rfl ?_
  refine zj_iload_n 5 2 X kd_M_shifts_4 rfl rfl rfl ?_
  refine zj_ng (fun hg => ?_)
  refine al_M_2 6 X kd_M_shifts_5 hg rfl ?_
  refine zj_i2l 7 X kd_M_shifts_6 rfl ?_
  refine zj_iload_n 8 1 X kd_M_shifts_7 rfl rfl rfl ?_
  refine mc_M_161 11 X kd_M_shifts_8 (Nat.le_of_ble_eq_true rfl) (Nat.le_of_ble_eq_true rfl) (Nat.le_of_ble_eq_true rfl) rfl (fun p1 => ?_)
  refine zj_lstore 13 [(5, .long p1.1), (0, .ref (P.1 0)), (1, .int x1), (2, .int x2), (3, .int x3), (4, .int x4)] X kd_M_shifts_11 (Nat.le_of_ble_eq_true rfl) rfl rfl ?_
  refine zj_iload_n 14 2 X kd_M_shifts_13 rfl rfl rfl ?_
  refine mc_M_144 17 X kd_M_shifts_14 (Nat.le_of_ble_eq_true rfl) (Nat.le_of_ble_eq_true rfl) (Nat.le_of_ble_eq_true rfl) rfl (fun p2 => ?_)
  refine zj_iconst 18 1 X kd_M_shifts_17 ki_1 rfl ?_
  refine zj_isub 19 X kd_M_shifts_18 rfl ?_
  refine zj_nmi (fun v3 => ?_)
  refine zj_istore 21 [(7, .int v3), (5, .long p1.1), (0, .ref (P.1 0)), (1, .int x1), (2, .int x2), (3, .int x3), (4, .int x4)] X kd_M_shifts_19 (Nat.le_of_ble_eq_true rfl) rfl rfl ?_
  refine zj_iconst 22 0 X kd_M_shifts_21 ki_0 rfl ?_
  refine zj_istore 24 [(8, .int 0), (7, .int v3), (5, .long p1.1), (0, .ref (P.1 0)), (1, .int x1), (2, .int x2), (3, .int x3), (4, .int x4)] X kd_M_shifts_22 (Nat.le_of_ble_eq_true rfl) rfl rfl ?_
  refine zj_iconst 25 0 X kd_M_shifts_24 ki_0 rfl ?_
  refine zj_istore 27 [(9, .int 0), (8, .int 0), (7, .int v3), (5, .long p1.1), (0, .ref (P.1 0)), (1, .int x1), (2, .int x2), (3, .int x3), (4, .int x4)] X kd_M_shifts_25 (Nat.le_of_ble_eq_true rfl) rfl rfl ?_
  refine zj_iload 29 8 X kd_M_shifts_27 rfl rfl ?_
  refine zj_if_ne 37 32 X kd_M_shifts_29 rfl rfl (fun _ => ?_) (fun _ => ?_)
  · refine zj_bipush 34 8 X kd_M_shifts_32 kb_8 rfl ?_
    refine zj_goto 39 X kd_M_shifts_34 rfl ?_
    refine zj_loc [4, 5, 6, 7, 3, 2, 1, 0] (L2 := [(0, .ref (P.1 0)), (1, .int x1), (2, .int x2), (3, .int x3), (5, .long p1.1), (7, .int v3), (8, .int 0), (9, .int 0)]) rfl ?_
    exact j_M_shifts_39 X p2.2 x1 x2 x3 p1.1 v3 0 0 8
  · refine zj_iload 39 8 X kd_M_shifts_37 rfl rfl ?_
    refine zj_loc [4, 5, 6, 7, 3, 2, 1, 0] (L2 := [(0, .ref (P.1 0)), (1, .int x1), (2, .int x2), (3, .int x3), (5, .long p1.1), (7, .int v3), (8, .int 0), (9, .int 0)]) rfl ?_
    exact j_M_shifts_39 X p2.2 x1 x2 x3 p1.1 v3 0 0 x4
theorem c_M_shifts {l : Launch} {P : ZP} (hV : ZVok (zmV P)) (s0 : ZS) (x1 : Int32) (x2 : Int32) (x3 : Int32) (x4 : Int32) {z : ZS} (h : f_M_shifts s0 x1 x2 x3 x4 = some z) : zMv l y_M_shifts b_M_shifts 19 none 3 66 (zmV P) s0 [.ref (P.1 0), .int x1, .int x2, .int x3, .int x4] z :=
  zMv_of (by decide +kernel) rfl rfl (Nat.le_of_ble_eq_true rfl) hV (fun _ X => j_M_shifts X s0 x1 x2 x3 x4) h
theorem kc_M_239 : zCV "FrameMachineModel" 239 y_M_shifts b_M_shifts 19 none 4 := ⟨⟨kw_976, kw_978, ksel_43, kw_11, kw_979⟩, by decide +kernel, by decide +kernel, by decide +kernel⟩
theorem mc_M_239 {ρ : Type} {E : ZE} {P : ZP} {A : Nat → Prop} {cc : ByteArray} {nL : Nat} {ret : Option FieldType} {fr lo : Nat} {F : ρ → State → Prop} {pc : Nat} {L : List (Nat × Value)} {rest : List Value} {σ : ZS} {x1 : Int32} {x2 : Int32} {x3 : Int32} {x4 : Int32} {K : ZS → Option ρ} (q : Nat) (X : ZX E (zmV P) A "FrameMachineModel" cc nL ret fr lo) (d : decode cc pc = .ok (.invokevirtual 239, 3)) (hfr : 3 + 1 ≤ fr) (hlo : 8 + (19 + 11) + 66 ≤ lo) (hr : (rest.map fun v => v.category).sum ≤ 8) (hq : pc + 3 = q) (kk : ∀ p : ZS, ZJ E (zmV P) A nL F q L (rest) p (K p)) : ZJ E (zmV P) A nL F pc L (.int x4 :: .int x3 :: .int x2 :: .int x1 :: .ref (P.1 0) :: rest) σ ((f_M_shifts σ x1 x2 x3 x4).bind K) :=
  zj_cVv q 0 0 (As := [.int x1, .int x2, .int x3, .int x4]) (rest := rest) X kc_M_239 hfr hlo (fun p h => c_M_shifts (zx_v X) σ x1 x2 x3 x4 h) rfl rfl rfl hr d hq kk
-- FrameMachineModel.divides(IJZ)V
theorem kd_M_divides_0 : decode b_M_divides 0 = .ok (.aload_n 0, 1) := by decide +kernel
theorem kd_M_divides_1 : decode b_M_divides 1 = .ok (.getfield 64, 3) := by decide +kernel
theorem kd_M_divides_4 : decode b_M_divides 4 = .ok (.ifCond .eq 4, 3) := by decide +kernel
theorem kd_M_divides_7 : decode b_M_divides 7 = .ok (.return_, 1) := by decide +kernel
theorem kd_M_divides_8 : decode b_M_divides 8 = .ok (.iload 4, 2) := by decide +kernel
theorem kd_M_divides_10 : decode b_M_divides 10 = .ok (.ifCond .eq 13, 3) := by decide +kernel
theorem kd_M_divides_13 : decode b_M_divides 13 = .ok (.aload_n 0, 1) := by decide +kernel
theorem kd_M_divides_14 : decode b_M_divides 14 = .ok (.getfield 13, 3) := by decide +kernel
theorem kd_M_divides_17 : decode b_M_divides 17 = .ok (.iload_n 1, 1) := by decide +kernel
theorem kd_M_divides_18 : decode b_M_divides 18 = .ok (.iaload, 1) := by decide +kernel
theorem kd_M_divides_19 : decode b_M_divides 19 = .ok (.i2l, 1) := by decide +kernel
theorem kd_M_divides_20 : decode b_M_divides 20 = .ok (.goto 14, 3) := by decide +kernel
theorem kd_M_divides_23 : decode b_M_divides 23 = .ok (.aload_n 0, 1) := by decide +kernel
theorem kd_M_divides_24 : decode b_M_divides 24 = .ok (.getfield 13, 3) := by decide +kernel
theorem kd_M_divides_27 : decode b_M_divides 27 = .ok (.iload_n 1, 1) := by decide +kernel
theorem kd_M_divides_28 : decode b_M_divides 28 = .ok (.iaload, 1) := by decide +kernel
theorem kd_M_divides_29 : decode b_M_divides 29 = .ok (.i2l, 1) := by decide +kernel
theorem kd_M_divides_30 : decode b_M_divides 30 = .ok (.ldc2_w 67, 3) := by decide +kernel
theorem kd_M_divides_33 : decode b_M_divides 33 = .ok (.land, 1) := by decide +kernel
theorem kd_M_divides_34 : decode b_M_divides 34 = .ok (.lstore 5, 2) := by decide +kernel
theorem kd_M_divides_36 : decode b_M_divides 36 = .ok (.iload 4, 2) := by decide +kernel
theorem kd_M_divides_38 : decode b_M_divides 38 = .ok (.ifCond .eq 12, 3) := by decide +kernel
theorem kd_M_divides_41 : decode b_M_divides 41 = .ok (.lload_n 2, 1) := by decide +kernel
theorem kd_M_divides_42 : decode b_M_divides 42 = .ok (.iconst 1, 1) := by decide +kernel
theorem kd_M_divides_43 : decode b_M_divides 43 = .ok (.invokestatic 154, 3) := by decide +kernel
theorem kd_M_divides_46 : decode b_M_divides 46 = .ok (.i2l, 1) := by decide +kernel
theorem kd_M_divides_47 : decode b_M_divides 47 = .ok (.goto 4, 3) := by decide +kernel
theorem kd_M_divides_50 : decode b_M_divides 50 = .ok (.lload_n 2, 1) := by decide +kernel
theorem kd_M_divides_51 : decode b_M_divides 51 = .ok (.lstore 7, 2) := by decide +kernel
theorem kd_M_divides_53 : decode b_M_divides 53 = .ok (.lload 7, 2) := by decide +kernel
theorem kd_M_divides_55 : decode b_M_divides 55 = .ok (.lconst 0, 1) := by decide +kernel
theorem kd_M_divides_56 : decode b_M_divides 56 = .ok (.lcmp, 1) := by decide +kernel
theorem kd_M_divides_57 : decode b_M_divides 57 = .ok (.ifCond .ne 9, 3) := by decide +kernel
theorem kd_M_divides_60 : decode b_M_divides 60 = .ok (.aload_n 0, 1) := by decide +kernel
theorem kd_M_divides_61 : decode b_M_divides 61 = .ok (.iconst 5, 1) := by decide +kernel
theorem kd_M_divides_62 : decode b_M_divides 62 = .ok (.putfield 174, 3) := by decide +kernel
theorem kd_M_divides_65 : decode b_M_divides 65 = .ok (.return_, 1) := by decide +kernel
theorem kd_M_divides_66 : decode b_M_divides 66 = .ok (.lload 5, 2) := by decide +kernel
theorem kd_M_divides_68 : decode b_M_divides 68 = .ok (.lload 7, 2) := by decide +kernel
theorem kd_M_divides_70 : decode b_M_divides 70 = .ok (.ldiv, 1) := by decide +kernel
theorem kd_M_divides_71 : decode b_M_divides 71 = .ok (.lstore 9, 2) := by decide +kernel
theorem kd_M_divides_73 : decode b_M_divides 73 = .ok (.lload 5, 2) := by decide +kernel
theorem kd_M_divides_75 : decode b_M_divides 75 = .ok (.lload 7, 2) := by decide +kernel
theorem kd_M_divides_77 : decode b_M_divides 77 = .ok (.lrem, 1) := by decide +kernel
theorem kd_M_divides_78 : decode b_M_divides 78 = .ok (.lstore 11, 2) := by decide +kernel
theorem kd_M_divides_80 : decode b_M_divides 80 = .ok (.iload 4, 2) := by decide +kernel
theorem kd_M_divides_82 : decode b_M_divides 82 = .ok (.ifCond .eq 29, 3) := by decide +kernel
theorem kd_M_divides_85 : decode b_M_divides 85 = .ok (.lload 9, 2) := by decide +kernel
theorem kd_M_divides_87 : decode b_M_divides 87 = .ok (.ldc2_w 177, 3) := by decide +kernel
theorem kd_M_divides_90 : decode b_M_divides 90 = .ok (.lcmp, 1) := by decide +kernel
theorem kd_M_divides_91 : decode b_M_divides 91 = .ok (.ifCond .lt 16, 3) := by decide +kernel
theorem kd_M_divides_94 : decode b_M_divides 94 = .ok (.lload 9, 2) := by decide +kernel
theorem kd_M_divides_96 : decode b_M_divides 96 = .ok (.ldc2_w 179, 3) := by decide +kernel
theorem kd_M_divides_99 : decode b_M_divides 99 = .ok (.lcmp, 1) := by decide +kernel
theorem kd_M_divides_100 : decode b_M_divides 100 = .ok (.ifCond .gt 7, 3) := by decide +kernel
theorem kd_M_divides_103 : decode b_M_divides 103 = .ok (.iconst 1, 1) := by decide +kernel
theorem kd_M_divides_104 : decode b_M_divides 104 = .ok (.goto 21, 3) := by decide +kernel
theorem kd_M_divides_107 : decode b_M_divides 107 = .ok (.iconst 0, 1) := by decide +kernel
theorem kd_M_divides_108 : decode b_M_divides 108 = .ok (.goto 17, 3) := by decide +kernel
theorem kd_M_divides_111 : decode b_M_divides 111 = .ok (.lload 9, 2) := by decide +kernel
theorem kd_M_divides_113 : decode b_M_divides 113 = .ok (.ldc2_w 181, 3) := by decide +kernel
theorem kd_M_divides_116 : decode b_M_divides 116 = .ok (.lcmp, 1) := by decide +kernel
theorem kd_M_divides_117 : decode b_M_divides 117 = .ok (.ifCond .gt 7, 3) := by decide +kernel
theorem kd_M_divides_120 : decode b_M_divides 120 = .ok (.iconst 1, 1) := by decide +kernel
theorem kd_M_divides_121 : decode b_M_divides 121 = .ok (.goto 4, 3) := by decide +kernel
theorem kd_M_divides_124 : decode b_M_divides 124 = .ok (.iconst 0, 1) := by decide +kernel
theorem kd_M_divides_125 : decode b_M_divides 125 = .ok (.istore 13, 2) := by decide +kernel
theorem kd_M_divides_127 : decode b_M_divides 127 = .ok (.iload 13, 2) := by decide +kernel
theorem kd_M_divides_129 : decode b_M_divides 129 = .ok (.ifCond .ne 14, 3) := by decide +kernel
theorem kd_M_divides_132 : decode b_M_divides 132 = .ok (.aload_n 0, 1) := by decide +kernel
theorem kd_M_divides_133 : decode b_M_divides 133 = .ok (.iconst 1, 1) := by decide +kernel
theorem kd_M_divides_134 : decode b_M_divides 134 = .ok (.putfield 131, 3) := by decide +kernel
theorem kd_M_divides_137 : decode b_M_divides 137 = .ok (.aload_n 0, 1) := by decide +kernel
theorem kd_M_divides_138 : decode b_M_divides 138 = .ok (.iconst 0, 1) := by decide +kernel
theorem kd_M_divides_139 : decode b_M_divides 139 = .ok (.putfield 134, 3) := by decide +kernel
theorem kd_M_divides_142 : decode b_M_divides 142 = .ok (.return_, 1) := by decide +kernel
theorem kd_M_divides_143 : decode b_M_divides 143 = .ok (.aload_n 0, 1) := by decide +kernel
theorem kd_M_divides_144 : decode b_M_divides 144 = .ok (.lload 9, 2) := by decide +kernel
theorem kd_M_divides_146 : decode b_M_divides 146 = .ok (.iconst 1, 1) := by decide +kernel
theorem kd_M_divides_147 : decode b_M_divides 147 = .ok (.invokestatic 161, 3) := by decide +kernel
theorem kd_M_divides_150 : decode b_M_divides 150 = .ok (.iconst 1, 1) := by decide +kernel
theorem kd_M_divides_151 : decode b_M_divides 151 = .ok (.invokevirtual 170, 3) := by decide +kernel
theorem kd_M_divides_154 : decode b_M_divides 154 = .ok (.aload_n 0, 1) := by decide +kernel
theorem kd_M_divides_155 : decode b_M_divides 155 = .ok (.getfield 13, 3) := by decide +kernel
theorem kd_M_divides_158 : decode b_M_divides 158 = .ok (.iload_n 1, 1) := by decide +kernel
theorem kd_M_divides_159 : decode b_M_divides 159 = .ok (.lload 11, 2) := by decide +kernel
theorem kd_M_divides_161 : decode b_M_divides 161 = .ok (.iconst 1, 1) := by decide +kernel
theorem kd_M_divides_162 : decode b_M_divides 162 = .ok (.invokestatic 161, 3) := by decide +kernel
theorem kd_M_divides_165 : decode b_M_divides 165 = .ok (.bipush 16, 2) := by decide +kernel
theorem kd_M_divides_167 : decode b_M_divides 167 = .ok (.lshl, 1) := by decide +kernel
theorem kd_M_divides_168 : decode b_M_divides 168 = .ok (.lload 9, 2) := by decide +kernel
theorem kd_M_divides_170 : decode b_M_divides 170 = .ok (.iconst 1, 1) := by decide +kernel
theorem kd_M_divides_171 : decode b_M_divides 171 = .ok (.invokestatic 161, 3) := by decide +kernel
theorem kd_M_divides_174 : decode b_M_divides 174 = .ok (.lor, 1) := by decide +kernel
theorem kd_M_divides_175 : decode b_M_divides 175 = .ok (.l2i, 1) := by decide +kernel
theorem kd_M_divides_176 : decode b_M_divides 176 = .ok (.iastore, 1) := by decide +kernel
theorem kd_M_divides_177 : decode b_M_divides 177 = .ok (.return_, 1) := by decide +kernel
noncomputable def f_M_divides_125 (s0 : ZS) (l1 : Int32) (l9 : Int64) (l11 : Int64) (t0 : Int32) : Option (ZS) :=
  if t0 = 0 then
    zs_nm (zs_up s0 0 9 1) fun s8 =>
    zs_nm (zs_up s8 0 10 0) fun s9 =>
    some s9
  else
    (f_M_cut s0 l9 1).bind fun p3 =>
    (f_M_tells p3.2 p3.1 1).bind fun s4 =>
    (f_M_cut s4 l11 1).bind fun p5 =>
    (f_M_cut p5.2 l9 1).bind fun p6 =>
    if l1 < 0 ∨ 8 ≤ l1.toNatClampNeg then none else
    zs_nm (zs_up p6.2 2 l1.toNatClampNeg (((zo_lshl p5.1 16) ||| p6.1).toInt32)) fun s7 =>
    some s7
noncomputable def f_M_divides_107 (s0 : ZS) (l1 : Int32) (l9 : Int64) (l11 : Int64) : Option (ZS) :=
  f_M_divides_125 s0 l1 l9 l11 0
noncomputable def f_M_divides_51 (s0 : ZS) (l1 : Int32) (l4 : Int32) (l5 : Int64) (t0 : Int64) : Option (ZS) :=
  if (lg_cmp t0 0) = 0 then
    zs_nm (zs_up s0 0 19 5) fun s10 =>
    some s10
  else
    if t0 = 0 then none else
    zs_nm (zo_ldiv l5 t0) fun v1 =>
    if t0 = 0 then none else
    zs_nm (zo_lrem l5 t0) fun v2 =>
    if l4 = 0 then
      if 0 < (lg_cmp v1 65535) then
        f_M_divides_125 s0 l1 v1 v2 0
      else
        f_M_divides_125 s0 l1 v1 v2 1
    else
      if (lg_cmp v1 ((-32768))) < 0 then
        f_M_divides_107 s0 l1 v1 v2
      else
        if 0 < (lg_cmp v1 32767) then
          f_M_divides_107 s0 l1 v1 v2
        else
          f_M_divides_125 s0 l1 v1 v2 1
noncomputable def f_M_divides_34 (s0 : ZS) (l1 : Int32) (l2 : Int64) (l4 : Int32) (t0 : Int64) : Option (ZS) :=
  if l4 = 0 then
    f_M_divides_51 s0 l1 l4 t0 l2
  else
    (f_M_signed s0 l2 1).bind fun p11 =>
    f_M_divides_51 p11.2 l1 l4 t0 ((p11.1.toInt64))
noncomputable def f_M_divides (s0 : ZS) (x1 : Int32) (x2 : Int64) (x3 : Int32) : Option (ZS) :=
  if (s0 0 15) = 0 then
    if x3 = 0 then
      if x1 < 0 ∨ 8 ≤ x1.toNatClampNeg then none else
      f_M_divides_34 s0 x1 x2 x3 ((((s0 2 x1.toNatClampNeg).toInt64) &&& 4294967295))
    else
      if x1 < 0 ∨ 8 ≤ x1.toNatClampNeg then none else
      f_M_divides_34 s0 x1 x2 x3 (((s0 2 x1.toNatClampNeg).toInt64))
  else
    some s0
theorem j_M_divides_125 {P : ZP} {E : ZE} {A : Nat → Prop} (X : ZX E (zmV P) A "FrameMachineModel" b_M_divides 14 none 2 43) (s0 : ZS) (l1 : Int32) (l9 : Int64) (l11 : Int64) (t0 : Int32) : ZJ E (zmV P) A 14 (zFv E (zmV P) A) 125 [(0, .ref (P.1 0)), (1, .int l1), (9, .long l9), (11, .long l11)] [.int t0] s0 (f_M_divides_125 s0 l1 l9 l11 t0) := by
  unfold f_M_divides_125
  refine zj_istore 127 [(13, .int t0), (0, .ref (P.1 0)), (1, .int l1), (9, .long l9), (11, .long l11)] X kd_M_divides_125 (Nat.le_of_ble_eq_true rfl) rfl rfl ?_
  refine zj_iload 129 0 X kd_M_divides_127 rfl rfl ?_
  refine zj_if_ne 143 132 X kd_M_divides_129 rfl rfl (fun _ => ?_) (fun _ => ?_)
  · refine zj_aload_n 133 1 X kd_M_divides_132 rfl rfl rfl ?_
    refine zj_iconst 134 1 X kd_M_divides_133 ki_1 rfl ?_
    refine pf_M_131 137 X kd_M_divides_134 rfl ?_
    refine zj_nms (fun s8 => ?_)
    refine zj_aload_n 138 1 X kd_M_divides_137 rfl rfl rfl ?_
    refine zj_iconst 139 0 X kd_M_divides_138 ki_0 rfl ?_
    refine pf_M_134 142 X kd_M_divides_139 rfl ?_
    refine zj_nms (fun s9 => ?_)
    exact zj_vret X kd_M_divides_142
  · refine zj_aload_n 144 1 X kd_M_divides_143 rfl rfl rfl ?_
    refine zj_lload 146 3 X kd_M_divides_144 rfl rfl ?_
    refine zj_iconst 147 1 X kd_M_divides_146 ki_1 rfl ?_
    refine mc_M_161 150 X kd_M_divides_147 (Nat.le_of_ble_eq_true rfl) (Nat.le_of_ble_eq_true rfl) (Nat.le_of_ble_eq_true rfl) rfl (fun p3 => ?_)
    refine zj_iconst 151 1 X kd_M_divides_150 ki_1 rfl ?_
    refine mc_M_170 154 X kd_M_divides_151 (Nat.le_of_ble_eq_true rfl) (Nat.le_of_ble_eq_true rfl) (Nat.le_of_ble_eq_true rfl) rfl (fun s4 => ?_)
    refine zj_aload_n 155 1 X kd_M_divides_154 rfl rfl rfl ?_
    refine gf_M_13 158 X kd_M_divides_155 rfl ?_
    refine zj_iload_n 159 2 X kd_M_divides_158 rfl rfl rfl ?_
    refine zj_lload 161 4 X kd_M_divides_159 rfl rfl ?_
    refine zj_iconst 162 1 X kd_M_divides_161 ki_1 rfl ?_
    refine mc_M_161 165 X kd_M_divides_162 (Nat.le_of_ble_eq_true rfl) (Nat.le_of_ble_eq_true rfl) (Nat.le_of_ble_eq_true rfl) rfl (fun p5 => ?_)
    refine zj_bipush 167 16 X kd_M_divides_165 kb_16 rfl ?_
    refine zj_lshl 168 X kd_M_divides_167 rfl ?_
    refine zj_lload 170 3 X kd_M_divides_168 rfl rfl ?_
    refine zj_iconst 171 1 X kd_M_divides_170 ki_1 rfl ?_
    refine mc_M_161 174 X kd_M_divides_171 (Nat.le_of_ble_eq_true rfl) (Nat.le_of_ble_eq_true rfl) (Nat.le_of_ble_eq_true rfl) rfl (fun p6 => ?_)
    refine zj_lor 175 X kd_M_divides_174 rfl ?_
    refine zj_l2i 176 X kd_M_divides_175 rfl ?_
    refine zj_ng (fun hg => ?_)
    refine as_M_2 177 X kd_M_divides_176 hg rfl ?_
    refine zj_nms (fun s7 => ?_)
    exact zj_vret X kd_M_divides_177
theorem j_M_divides_107 {P : ZP} {E : ZE} {A : Nat → Prop} (X : ZX E (zmV P) A "FrameMachineModel" b_M_divides 14 none 2 43) (s0 : ZS) (l1 : Int32) (l9 : Int64) (l11 : Int64) : ZJ E (zmV P) A 14 (zFv E (zmV P) A) 107 [(0, .ref (P.1 0)), (1, .int l1), (9, .long l9), (11, .long l11)] [] s0 (f_M_divides_107 s0 l1 l9 l11) := by
  unfold f_M_divides_107
  refine zj_iconst 108 0 X kd_M_divides_107 ki_0 rfl ?_
  refine zj_goto 125 X kd_M_divides_108 rfl ?_
  exact j_M_divides_125 X s0 l1 l9 l11 0
theorem j_M_divides_51 {P : ZP} {E : ZE} {A : Nat → Prop} (X : ZX E (zmV P) A "FrameMachineModel" b_M_divides 14 none 2 43) (s0 : ZS) (l1 : Int32) (l4 : Int32) (l5 : Int64) (t0 : Int64) : ZJ E (zmV P) A 14 (zFv E (zmV P) A) 51 [(0, .ref (P.1 0)), (1, .int l1), (4, .int l4), (5, .long l5)] [.long t0] s0 (f_M_divides_51 s0 l1 l4 l5 t0) := by
  unfold f_M_divides_51
  refine zj_lstore 53 [(7, .long t0), (0, .ref (P.1 0)), (1, .int l1), (4, .int l4), (5, .long l5)] X kd_M_divides_51 (Nat.le_of_ble_eq_true rfl) rfl rfl ?_
  refine zj_lload 55 0 X kd_M_divides_53 rfl rfl ?_
  refine zj_lconst 56 0 X kd_M_divides_55 rfl rfl ?_
  refine zj_lcmp 57 X kd_M_divides_56 rfl ?_
  refine zj_if_ne 66 60 X kd_M_divides_57 rfl rfl (fun _ => ?_) (fun _ => ?_)
  · refine zj_aload_n 61 1 X kd_M_divides_60 rfl rfl rfl ?_
    refine zj_iconst 62 5 X kd_M_divides_61 ki_5 rfl ?_
    refine pf_M_174 65 X kd_M_divides_62 rfl ?_
    refine zj_nms (fun s10 => ?_)
    exact zj_vret X kd_M_divides_65
  · refine zj_lload 68 4 X kd_M_divides_66 rfl rfl ?_
    refine zj_lload 70 0 X kd_M_divides_68 rfl rfl ?_
    refine zj_ng (fun hg => ?_)
    refine zj_ldiv 71 X kd_M_divides_70 hg rfl ?_
    refine zj_nml (fun v1 => ?_)
    refine zj_lstore 73 [(9, .long v1), (7, .long t0), (0, .ref (P.1 0)), (1, .int l1), (4, .int l4), (5, .long l5)] X kd_M_divides_71 (Nat.le_of_ble_eq_true rfl) rfl rfl ?_
    refine zj_lload 75 5 X kd_M_divides_73 rfl rfl ?_
    refine zj_lload 77 1 X kd_M_divides_75 rfl rfl ?_
    refine zj_ng (fun hg => ?_)
    refine zj_lrem 78 X kd_M_divides_77 hg rfl ?_
    refine zj_nml (fun v2 => ?_)
    refine zj_lstore 80 [(11, .long v2), (9, .long v1), (7, .long t0), (0, .ref (P.1 0)), (1, .int l1), (4, .int l4), (5, .long l5)] X kd_M_divides_78 (Nat.le_of_ble_eq_true rfl) rfl rfl ?_
    refine zj_iload 82 5 X kd_M_divides_80 rfl rfl ?_
    refine zj_if_eq 111 85 X kd_M_divides_82 rfl rfl (fun _ => ?_) (fun _ => ?_)
    · refine zj_lload 113 1 X kd_M_divides_111 rfl rfl ?_
      refine zj_ldc2 116 65535 X kd_M_divides_113 kw_1047 rfl ?_
      refine zj_lcmp 117 X kd_M_divides_116 rfl ?_
      refine zj_if_gt 124 120 X kd_M_divides_117 rfl rfl (fun _ => ?_) (fun _ => ?_)
      · refine zj_iconst 125 0 X kd_M_divides_124 ki_0 rfl ?_
        refine zj_loc [3, 4, 1, 0] (L2 := [(0, .ref (P.1 0)), (1, .int l1), (9, .long v1), (11, .long v2)]) rfl ?_
        exact j_M_divides_125 X s0 l1 v1 v2 0
      · refine zj_iconst 121 1 X kd_M_divides_120 ki_1 rfl ?_
        refine zj_goto 125 X kd_M_divides_121 rfl ?_
        refine zj_loc [3, 4, 1, 0] (L2 := [(0, .ref (P.1 0)), (1, .int l1), (9, .long v1), (11, .long v2)]) rfl ?_
        exact j_M_divides_125 X s0 l1 v1 v2 1
    · refine zj_lload 87 1 X kd_M_divides_85 rfl rfl ?_
      refine zj_ldc2 90 ((-32768)) X kd_M_divides_87 kw_1045 rfl ?_
      refine zj_lcmp 91 X kd_M_divides_90 rfl ?_
      refine zj_if_lt 107 94 X kd_M_divides_91 rfl rfl (fun _ => ?_) (fun _ => ?_)
      · refine zj_loc [3, 4, 1, 0] (L2 := [(0, .ref (P.1 0)), (1, .int l1), (9, .long v1), (11, .long v2)]) rfl ?_
        exact j_M_divides_107 X s0 l1 v1 v2
      · refine zj_lload 96 1 X kd_M_divides_94 rfl rfl ?_
        refine zj_ldc2 99 32767 X kd_M_divides_96 kw_1046 rfl ?_
        refine zj_lcmp 100 X kd_M_divides_99 rfl ?_
        refine zj_if_gt 107 103 X kd_M_divides_100 rfl rfl (fun _ => ?_) (fun _ => ?_)
        · refine zj_loc [3, 4, 1, 0] (L2 := [(0, .ref (P.1 0)), (1, .int l1), (9, .long v1), (11, .long v2)]) rfl ?_
          exact j_M_divides_107 X s0 l1 v1 v2
        · refine zj_iconst 104 1 X kd_M_divides_103 ki_1 rfl ?_
          refine zj_goto 125 X kd_M_divides_104 rfl ?_
          refine zj_loc [3, 4, 1, 0] (L2 := [(0, .ref (P.1 0)), (1, .int l1), (9, .long v1), (11, .long v2)]) rfl ?_
          exact j_M_divides_125 X s0 l1 v1 v2 1
theorem j_M_divides_34 {P : ZP} {E : ZE} {A : Nat → Prop} (X : ZX E (zmV P) A "FrameMachineModel" b_M_divides 14 none 2 43) (s0 : ZS) (l1 : Int32) (l2 : Int64) (l4 : Int32) (t0 : Int64) : ZJ E (zmV P) A 14 (zFv E (zmV P) A) 34 [(0, .ref (P.1 0)), (1, .int l1), (2, .long l2), (4, .int l4)] [.long t0] s0 (f_M_divides_34 s0 l1 l2 l4 t0) := by
  unfold f_M_divides_34
  refine zj_lstore 36 [(5, .long t0), (0, .ref (P.1 0)), (1, .int l1), (2, .long l2), (4, .int l4)] X kd_M_divides_34 (Nat.le_of_ble_eq_true rfl) rfl rfl ?_
  refine zj_iload 38 4 X kd_M_divides_36 rfl rfl ?_
  refine zj_if_eq 50 41 X kd_M_divides_38 rfl rfl (fun _ => ?_) (fun _ => ?_)
  · refine zj_lload_n 51 3 X kd_M_divides_50 rfl rfl rfl ?_
    refine zj_loc [1, 2, 4, 0] (L2 := [(0, .ref (P.1 0)), (1, .int l1), (4, .int l4), (5, .long t0)]) rfl ?_
    exact j_M_divides_51 X s0 l1 l4 t0 l2
  · refine zj_lload_n 42 3 X kd_M_divides_41 rfl rfl rfl ?_
    refine zj_iconst 43 1 X kd_M_divides_42 ki_1 rfl ?_
    refine mc_M_154 46 X kd_M_divides_43 (Nat.le_of_ble_eq_true rfl) (Nat.le_of_ble_eq_true rfl) (Nat.le_of_ble_eq_true rfl) rfl (fun p11 => ?_)
    refine zj_i2l 47 X kd_M_divides_46 rfl ?_
    refine zj_goto 51 X kd_M_divides_47 rfl ?_
    refine zj_loc [1, 2, 4, 0] (L2 := [(0, .ref (P.1 0)), (1, .int l1), (4, .int l4), (5, .long t0)]) rfl ?_
    exact j_M_divides_51 X p11.2 l1 l4 t0 ((p11.1.toInt64))
theorem j_M_divides {P : ZP} {E : ZE} {A : Nat → Prop} (X : ZX E (zmV P) A "FrameMachineModel" b_M_divides 14 none 2 43) (s0 : ZS) (x1 : Int32) (x2 : Int64) (x3 : Int32) : ZJ E (zmV P) A 14 (zFv E (zmV P) A) 0 [(0, .ref (P.1 0)), (1, .int x1), (2, .long x2), (4, .int x3)] [] s0 (f_M_divides s0 x1 x2 x3) := by
  unfold f_M_divides
  refine zj_aload_n 1 0 X kd_M_divides_0 rfl rfl rfl ?_
  refine gf_M_64 4 X kd_M_divides_1 rfl ?_
  refine zj_if_eq 8 7 X kd_M_divides_4 rfl rfl (fun _ => ?_) (fun _ => ?_)
  · refine zj_iload 10 3 X kd_M_divides_8 rfl rfl ?_
    refine zj_if_eq 23 13 X kd_M_divides_10 rfl rfl (fun _ => ?_) (fun _ => ?_)
    · refine zj_aload_n 24 0 X kd_M_divides_23 rfl rfl rfl ?_
      refine gf_M_13 27 X kd_M_divides_24 rfl ?_
      refine zj_iload_n 28 1 X kd_M_divides_27 rfl rfl rfl ?_
      refine zj_ng (fun hg => ?_)
      refine al_M_2 29 X kd_M_divides_28 hg rfl ?_
      refine zj_i2l 30 X kd_M_divides_29 rfl ?_
      refine zj_ldc2 33 4294967295 X kd_M_divides_30 kw_911 rfl ?_
      refine zj_land 34 X kd_M_divides_33 rfl ?_
      exact j_M_divides_34 X s0 x1 x2 x3 ((((s0 2 x1.toNatClampNeg).toInt64) &&& 4294967295))
    · refine zj_aload_n 14 0 X kd_M_divides_13 rfl rfl rfl ?_
      refine gf_M_13 17 X kd_M_divides_14 rfl ?_
      refine zj_iload_n 18 1 X kd_M_divides_17 rfl rfl rfl ?_
      refine zj_ng (fun hg => ?_)
      refine al_M_2 19 X kd_M_divides_18 hg rfl ?_
      refine zj_i2l 20 X kd_M_divides_19 rfl ?_
      refine zj_goto 34 X kd_M_divides_20 rfl ?_
      exact j_M_divides_34 X s0 x1 x2 x3 (((s0 2 x1.toNatClampNeg).toInt64))
  · exact zj_vret X kd_M_divides_7
theorem c_M_divides {l : Launch} {P : ZP} (hV : ZVok (zmV P)) (s0 : ZS) (x1 : Int32) (x2 : Int64) (x3 : Int32) {z : ZS} (h : f_M_divides s0 x1 x2 x3 = some z) : zMv l y_M_divides b_M_divides 14 none 2 43 (zmV P) s0 [.ref (P.1 0), .int x1, .long x2, .int x3] z :=
  zMv_of (by decide +kernel) rfl rfl (Nat.le_of_ble_eq_true rfl) hV (fun _ X => j_M_divides X s0 x1 x2 x3) h
theorem kc_M_232 : zCV "FrameMachineModel" 232 y_M_divides b_M_divides 14 none 3 := ⟨⟨kw_1041, kw_1043, ksel_56, kw_11, kw_1044⟩, by decide +kernel, by decide +kernel, by decide +kernel⟩
theorem mc_M_232 {ρ : Type} {E : ZE} {P : ZP} {A : Nat → Prop} {cc : ByteArray} {nL : Nat} {ret : Option FieldType} {fr lo : Nat} {F : ρ → State → Prop} {pc : Nat} {L : List (Nat × Value)} {rest : List Value} {σ : ZS} {x1 : Int32} {x2 : Int64} {x3 : Int32} {K : ZS → Option ρ} (q : Nat) (X : ZX E (zmV P) A "FrameMachineModel" cc nL ret fr lo) (d : decode cc pc = .ok (.invokevirtual 232, 3)) (hfr : 2 + 1 ≤ fr) (hlo : 8 + (14 + 11) + 43 ≤ lo) (hr : (rest.map fun v => v.category).sum ≤ 8) (hq : pc + 3 = q) (kk : ∀ p : ZS, ZJ E (zmV P) A nL F q L (rest) p (K p)) : ZJ E (zmV P) A nL F pc L (.int x3 :: .long x2 :: .int x1 :: .ref (P.1 0) :: rest) σ ((f_M_divides σ x1 x2 x3).bind K) :=
  zj_cVv q 0 0 (As := [.int x1, .long x2, .int x3]) (rest := rest) X kc_M_232 hfr hlo (fun p h => c_M_divides (zx_v X) σ x1 x2 x3 h) rfl rfl rfl hr d hq kk
