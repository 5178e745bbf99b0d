-- FrameMachineModel.holds(I)Z
theorem kd_M_holds_0 : decode b_M_holds 0 = .ok (.aload_n 0, 1) := by decide +kernel
theorem kd_M_holds_1 : decode b_M_holds 1 = .ok (.getfield 125, 3) := by decide +kernel
theorem kd_M_holds_4 : decode b_M_holds 4 = .ok (.aload_n 0, 1) := by decide +kernel
theorem kd_M_holds_5 : decode b_M_holds 5 = .ok (.getfield 131, 3) := by decide +kernel
theorem kd_M_holds_8 : decode b_M_holds 8 = .ok (.if_icmp .ne 7, 3) := by decide +kernel
theorem kd_M_holds_11 : decode b_M_holds 11 = .ok (.iconst 0, 1) := by decide +kernel
theorem kd_M_holds_12 : decode b_M_holds 12 = .ok (.goto 4, 3) := by decide +kernel
theorem kd_M_holds_15 : decode b_M_holds 15 = .ok (.iconst 1, 1) := by decide +kernel
theorem kd_M_holds_16 : decode b_M_holds 16 = .ok (.istore_n 2, 1) := by decide +kernel
theorem kd_M_holds_17 : decode b_M_holds 17 = .ok (.iload_n 1, 1) := by decide +kernel
theorem kd_M_holds_18 : decode b_M_holds 18 = .ok (.iconst 4, 1) := by decide +kernel
theorem kd_M_holds_19 : decode b_M_holds 19 = .ok (.if_icmp .ge 15, 3) := by decide +kernel
theorem kd_M_holds_22 : decode b_M_holds 22 = .ok (.aload_n 0, 1) := by decide +kernel
theorem kd_M_holds_23 : decode b_M_holds 23 = .ok (.getfield 134, 3) := by decide +kernel
theorem kd_M_holds_26 : decode b_M_holds 26 = .ok (.aload_n 0, 1) := by decide +kernel
theorem kd_M_holds_27 : decode b_M_holds 27 = .ok (.getfield 128, 3) := by decide +kernel
theorem kd_M_holds_30 : decode b_M_holds 30 = .ok (.ior, 1) := by decide +kernel
theorem kd_M_holds_31 : decode b_M_holds 31 = .ok (.goto 71, 3) := by decide +kernel
theorem kd_M_holds_34 : decode b_M_holds 34 = .ok (.iload_n 1, 1) := by decide +kernel
theorem kd_M_holds_35 : decode b_M_holds 35 = .ok (.bipush 6, 2) := by decide +kernel
theorem kd_M_holds_37 : decode b_M_holds 37 = .ok (.if_icmp .ge 10, 3) := by decide +kernel
theorem kd_M_holds_40 : decode b_M_holds 40 = .ok (.aload_n 0, 1) := by decide +kernel
theorem kd_M_holds_41 : decode b_M_holds 41 = .ok (.getfield 134, 3) := by decide +kernel
theorem kd_M_holds_44 : decode b_M_holds 44 = .ok (.goto 58, 3) := by decide +kernel
theorem kd_M_holds_47 : decode b_M_holds 47 = .ok (.iload_n 1, 1) := by decide +kernel
theorem kd_M_holds_48 : decode b_M_holds 48 = .ok (.bipush 8, 2) := by decide +kernel
theorem kd_M_holds_50 : decode b_M_holds 50 = .ok (.if_icmp .ge 10, 3) := by decide +kernel
theorem kd_M_holds_53 : decode b_M_holds 53 = .ok (.aload_n 0, 1) := by decide +kernel
theorem kd_M_holds_54 : decode b_M_holds 54 = .ok (.getfield 128, 3) := by decide +kernel
theorem kd_M_holds_57 : decode b_M_holds 57 = .ok (.goto 45, 3) := by decide +kernel
theorem kd_M_holds_60 : decode b_M_holds 60 = .ok (.iload_n 1, 1) := by decide +kernel
theorem kd_M_holds_61 : decode b_M_holds 61 = .ok (.bipush 10, 2) := by decide +kernel
theorem kd_M_holds_63 : decode b_M_holds 63 = .ok (.if_icmp .ge 10, 3) := by decide +kernel
theorem kd_M_holds_66 : decode b_M_holds 66 = .ok (.aload_n 0, 1) := by decide +kernel
theorem kd_M_holds_67 : decode b_M_holds 67 = .ok (.getfield 131, 3) := by decide +kernel
theorem kd_M_holds_70 : decode b_M_holds 70 = .ok (.goto 32, 3) := by decide +kernel
theorem kd_M_holds_73 : decode b_M_holds 73 = .ok (.iload_n 1, 1) := by decide +kernel
theorem kd_M_holds_74 : decode b_M_holds 74 = .ok (.bipush 12, 2) := by decide +kernel
theorem kd_M_holds_76 : decode b_M_holds 76 = .ok (.if_icmp .ge 10, 3) := by decide +kernel
theorem kd_M_holds_79 : decode b_M_holds 79 = .ok (.aload_n 0, 1) := by decide +kernel
theorem kd_M_holds_80 : decode b_M_holds 80 = .ok (.getfield 125, 3) := by decide +kernel
theorem kd_M_holds_83 : decode b_M_holds 83 = .ok (.goto 19, 3) := by decide +kernel
theorem kd_M_holds_86 : decode b_M_holds 86 = .ok (.iload_n 1, 1) := by decide +kernel
theorem kd_M_holds_87 : decode b_M_holds 87 = .ok (.bipush 14, 2) := by decide +kernel
theorem kd_M_holds_89 : decode b_M_holds 89 = .ok (.if_icmp .ge 7, 3) := by decide +kernel
theorem kd_M_holds_92 : decode b_M_holds 92 = .ok (.iload_n 2, 1) := by decide +kernel
theorem kd_M_holds_93 : decode b_M_holds 93 = .ok (.goto 9, 3) := by decide +kernel
theorem kd_M_holds_96 : decode b_M_holds 96 = .ok (.iload_n 2, 1) := by decide +kernel
theorem kd_M_holds_97 : decode b_M_holds 97 = .ok (.aload_n 0, 1) := by decide +kernel
theorem kd_M_holds_98 : decode b_M_holds 98 = .ok (.getfield 128, 3) := by decide +kernel
theorem kd_M_holds_101 : decode b_M_holds 101 = .ok (.ior, 1) := by decide +kernel
theorem kd_M_holds_102 : decode b_M_holds 102 = .ok (.istore_n 3, 1) := by decide +kernel
theorem kd_M_holds_103 : decode b_M_holds 103 = .ok (.iload_n 1, 1) := by decide +kernel
theorem kd_M_holds_104 : decode b_M_holds 104 = .ok (.iconst 2, 1) := by decide +kernel
theorem kd_M_holds_105 : decode b_M_holds 105 = .ok (.if_icmp .lt 10, 3) := by decide +kernel
theorem kd_M_holds_108 : decode b_M_holds 108 = .ok (.iload_n 3, 1) := by decide +kernel
theorem kd_M_holds_109 : decode b_M_holds 109 = .ok (.iload_n 1, 1) := by decide +kernel
theorem kd_M_holds_110 : decode b_M_holds 110 = .ok (.iconst 2, 1) := by decide +kernel
theorem kd_M_holds_111 : decode b_M_holds 111 = .ok (.irem, 1) := by decide +kernel
theorem kd_M_holds_112 : decode b_M_holds 112 = .ok (.if_icmp .ne 7, 3) := by decide +kernel
theorem kd_M_holds_115 : decode b_M_holds 115 = .ok (.iconst 1, 1) := by decide +kernel
theorem kd_M_holds_116 : decode b_M_holds 116 = .ok (.goto 4, 3) := by decide +kernel
theorem kd_M_holds_119 : decode b_M_holds 119 = .ok (.iconst 0, 1) := by decide +kernel
theorem kd_M_holds_120 : decode b_M_holds 120 = .ok (.ireturn, 1) := by decide +kernel
noncomputable def f_M_holds_115 (s0 : ZS)  : Option (Int32 × ZS) :=
  some (1, s0)
noncomputable def f_M_holds_102 (s0 : ZS) (l1 : Int32) (t0 : Int32) : Option (Int32 × ZS) :=
  if l1 < 2 then
    f_M_holds_115 s0
  else
    if t0 = (zo_irem l1 2) then
      f_M_holds_115 s0
    else
      some (0, s0)
noncomputable def f_M_holds_16 (s0 : ZS) (l1 : Int32) (t0 : Int32) : Option (Int32 × ZS) :=
  if 4 ≤ l1 then
    if 6 ≤ l1 then
      if 8 ≤ l1 then
        if 10 ≤ l1 then
          if 12 ≤ l1 then
            if 14 ≤ l1 then
              f_M_holds_102 s0 l1 ((t0 ||| (s0 0 8)))
            else
              f_M_holds_102 s0 l1 t0
          else
            f_M_holds_102 s0 l1 ((s0 0 7))
        else
          f_M_holds_102 s0 l1 ((s0 0 9))
      else
        f_M_holds_102 s0 l1 ((s0 0 8))
    else
      f_M_holds_102 s0 l1 ((s0 0 10))
  else
    f_M_holds_102 s0 l1 (((s0 0 10) ||| (s0 0 8)))
noncomputable def f_M_holds (s0 : ZS) (x1 : Int32) : Option (Int32 × ZS) :=
  if (s0 0 7) = (s0 0 9) then
    f_M_holds_16 s0 x1 0
  else
    f_M_holds_16 s0 x1 1
theorem j_M_holds_115 {P : ZP} {E : ZE} {A : Nat → Prop} (X : ZX E (zmV P) A "FrameMachineModel" b_M_holds 4 (some .boolean) 0 0) (s0 : ZS)  : ZJ E (zmV P) A 4 (zFi E (zmV P) A) 115 [] [] s0 (f_M_holds_115 s0) := by
  unfold f_M_holds_115
  refine zj_iconst 116 1 X kd_M_holds_115 ki_1 rfl ?_
  refine zj_goto 120 X kd_M_holds_116 rfl ?_
  exact zj_zret X kd_M_holds_120 (Or.inr rfl)
theorem j_M_holds_102 {P : ZP} {E : ZE} {A : Nat → Prop} (X : ZX E (zmV P) A "FrameMachineModel" b_M_holds 4 (some .boolean) 0 0) (s0 : ZS) (l1 : Int32) (t0 : Int32) : ZJ E (zmV P) A 4 (zFi E (zmV P) A) 102 [(1, .int l1)] [.int t0] s0 (f_M_holds_102 s0 l1 t0) := by
  unfold f_M_holds_102
  refine zj_istore_n 103 [(3, .int t0), (1, .int l1)] X kd_M_holds_102 rfl (Nat.le_of_ble_eq_true rfl) rfl rfl ?_
  refine zj_iload_n 104 1 X kd_M_holds_103 rfl rfl rfl ?_
  refine zj_iconst 105 2 X kd_M_holds_104 ki_2 rfl ?_
  refine zj_icmp_lt 115 108 X kd_M_holds_105 rfl rfl (fun _ => ?_) (fun _ => ?_)
  · refine zj_loc [] (L2 := []) rfl ?_
    exact j_M_holds_115 X s0
  · refine zj_iload_n 109 0 X kd_M_holds_108 rfl rfl rfl ?_
    refine zj_iload_n 110 1 X kd_M_holds_109 rfl rfl rfl ?_
    refine zj_iconst 111 2 X kd_M_holds_110 ki_2 rfl ?_
    refine zj_irem 112 X kd_M_holds_111 (by decide) rfl ?_
    refine zj_icmp_ne 119 115 X kd_M_holds_112 rfl rfl (fun _ => ?_) (fun _ => ?_)
    · refine zj_loc [] (L2 := []) rfl ?_
      exact j_M_holds_115 X s0
    · refine zj_iconst 120 0 X kd_M_holds_119 ki_0 rfl ?_
      exact zj_zret X kd_M_holds_120 (Or.inl rfl)
theorem j_M_holds_16 {P : ZP} {E : ZE} {A : Nat → Prop} (X : ZX E (zmV P) A "FrameMachineModel" b_M_holds 4 (some .boolean) 0 0) (s0 : ZS) (l1 : Int32) (t0 : Int32) : ZJ E (zmV P) A 4 (zFi E (zmV P) A) 16 [(0, .ref (P.1 0)), (1, .int l1)] [.int t0] s0 (f_M_holds_16 s0 l1 t0) := by
  unfold f_M_holds_16
  refine zj_istore_n 17 [(2, .int t0), (0, .ref (P.1 0)), (1, .int l1)] X kd_M_holds_16 rfl (Nat.le_of_ble_eq_true rfl) rfl rfl ?_
  refine zj_iload_n 18 2 X kd_M_holds_17 rfl rfl rfl ?_
  refine zj_iconst 19 4 X kd_M_holds_18 ki_4 rfl ?_
  refine zj_icmp_ge 34 22 X kd_M_holds_19 rfl rfl (fun _ => ?_) (fun _ => ?_)
  · refine zj_iload_n 35 2 X kd_M_holds_34 rfl rfl rfl ?_
    refine zj_bipush 37 6 X kd_M_holds_35 kb_6 rfl ?_
    refine zj_icmp_ge 47 40 X kd_M_holds_37 rfl rfl (fun _ => ?_) (fun _ => ?_)
    · refine zj_iload_n 48 2 X kd_M_holds_47 rfl rfl rfl ?_
      refine zj_bipush 50 8 X kd_M_holds_48 kb_8 rfl ?_
      refine zj_icmp_ge 60 53 X kd_M_holds_50 rfl rfl (fun _ => ?_) (fun _ => ?_)
      · refine zj_iload_n 61 2 X kd_M_holds_60 rfl rfl rfl ?_
        refine zj_bipush 63 10 X kd_M_holds_61 kb_10 rfl ?_
        refine zj_icmp_ge 73 66 X kd_M_holds_63 rfl rfl (fun _ => ?_) (fun _ => ?_)
        · refine zj_iload_n 74 2 X kd_M_holds_73 rfl rfl rfl ?_
          refine zj_bipush 76 12 X kd_M_holds_74 kb_12 rfl ?_
          refine zj_icmp_ge 86 79 X kd_M_holds_76 rfl rfl (fun _ => ?_) (fun _ => ?_)
          · refine zj_iload_n 87 2 X kd_M_holds_86 rfl rfl rfl ?_
            refine zj_bipush 89 14 X kd_M_holds_87 kb_14 rfl ?_
            refine zj_icmp_ge 96 92 X kd_M_holds_89 rfl rfl (fun _ => ?_) (fun _ => ?_)
            · refine zj_iload_n 97 0 X kd_M_holds_96 rfl rfl rfl ?_
              refine zj_aload_n 98 1 X kd_M_holds_97 rfl rfl rfl ?_
              refine gf_M_128 101 X kd_M_holds_98 rfl ?_
              refine zj_ior 102 X kd_M_holds_101 rfl ?_
              refine zj_loc [2] (L2 := [(1, .int l1)]) rfl ?_
              exact j_M_holds_102 X s0 l1 ((t0 ||| (s0 0 8)))
            · refine zj_iload_n 93 0 X kd_M_holds_92 rfl rfl rfl ?_
              refine zj_goto 102 X kd_M_holds_93 rfl ?_
              refine zj_loc [2] (L2 := [(1, .int l1)]) rfl ?_
              exact j_M_holds_102 X s0 l1 t0
          · refine zj_aload_n 80 1 X kd_M_holds_79 rfl rfl rfl ?_
            refine gf_M_125 83 X kd_M_holds_80 rfl ?_
            refine zj_goto 102 X kd_M_holds_83 rfl ?_
            refine zj_loc [2] (L2 := [(1, .int l1)]) rfl ?_
            exact j_M_holds_102 X s0 l1 ((s0 0 7))
        · refine zj_aload_n 67 1 X kd_M_holds_66 rfl rfl rfl ?_
          refine gf_M_131 70 X kd_M_holds_67 rfl ?_
          refine zj_goto 102 X kd_M_holds_70 rfl ?_
          refine zj_loc [2] (L2 := [(1, .int l1)]) rfl ?_
          exact j_M_holds_102 X s0 l1 ((s0 0 9))
      · refine zj_aload_n 54 1 X kd_M_holds_53 rfl rfl rfl ?_
        refine gf_M_128 57 X kd_M_holds_54 rfl ?_
        refine zj_goto 102 X kd_M_holds_57 rfl ?_
        refine zj_loc [2] (L2 := [(1, .int l1)]) rfl ?_
        exact j_M_holds_102 X s0 l1 ((s0 0 8))
    · refine zj_aload_n 41 1 X kd_M_holds_40 rfl rfl rfl ?_
      refine gf_M_134 44 X kd_M_holds_41 rfl ?_
      refine zj_goto 102 X kd_M_holds_44 rfl ?_
      refine zj_loc [2] (L2 := [(1, .int l1)]) rfl ?_
      exact j_M_holds_102 X s0 l1 ((s0 0 10))
  · refine zj_aload_n 23 1 X kd_M_holds_22 rfl rfl rfl ?_
    refine gf_M_134 26 X kd_M_holds_23 rfl ?_
    refine zj_aload_n 27 1 X kd_M_holds_26 rfl rfl rfl ?_
    refine gf_M_128 30 X kd_M_holds_27 rfl ?_
    refine zj_ior 31 X kd_M_holds_30 rfl ?_
    refine zj_goto 102 X kd_M_holds_31 rfl ?_
    refine zj_loc [2] (L2 := [(1, .int l1)]) rfl ?_
    exact j_M_holds_102 X s0 l1 (((s0 0 10) ||| (s0 0 8)))
theorem j_M_holds {P : ZP} {E : ZE} {A : Nat → Prop} (X : ZX E (zmV P) A "FrameMachineModel" b_M_holds 4 (some .boolean) 0 0) (s0 : ZS) (x1 : Int32) : ZJ E (zmV P) A 4 (zFi E (zmV P) A) 0 [(0, .ref (P.1 0)), (1, .int x1)] [] s0 (f_M_holds s0 x1) := by
  unfold f_M_holds
  refine zj_aload_n 1 0 X kd_M_holds_0 rfl rfl rfl ?_
  refine gf_M_125 4 X kd_M_holds_1 rfl ?_
  refine zj_aload_n 5 0 X kd_M_holds_4 rfl rfl rfl ?_
  refine gf_M_131 8 X kd_M_holds_5 rfl ?_
  refine zj_icmp_ne 15 11 X kd_M_holds_8 rfl rfl (fun _ => ?_) (fun _ => ?_)
  · refine zj_iconst 12 0 X kd_M_holds_11 ki_0 rfl ?_
    refine zj_goto 16 X kd_M_holds_12 rfl ?_
    exact j_M_holds_16 X s0 x1 0
  · refine zj_iconst 16 1 X kd_M_holds_15 ki_1 rfl ?_
    exact j_M_holds_16 X s0 x1 1
theorem c_M_holds {l : Launch} {P : ZP} (hV : ZVok (zmV P)) (s0 : ZS) (x1 : Int32) {z : Int32 × ZS} (h : f_M_holds s0 x1 = some z) : zMi l y_M_holds b_M_holds 4 (some .boolean) 0 0 (zmV P) s0 [.ref (P.1 0), .int x1] z :=
  zMi_of (by decide +kernel) rfl rfl (Nat.le_of_ble_eq_true rfl) hV (fun _ X => j_M_holds X s0 x1) h
theorem kc_M_222 : zCV "FrameMachineModel" 222 y_M_holds b_M_holds 4 (some .boolean) 1 := ⟨⟨kw_1002, kw_1004, ksel_47, kw_11, kw_1005⟩, by decide +kernel, by decide +kernel, by decide +kernel⟩
theorem mc_M_222 {ρ : Type} {E : ZE} {P : ZP} {A : Nat → Prop} {cc : ByteArray} {nL : Nat} {ret : Option FieldType} {fr lo : Nat} {F : ρ → State → Prop} {pc : Nat} {L : List (Nat × Value)} {rest : List Value} {σ : ZS} {x1 : Int32} {K : Int32 × ZS → Option ρ} (q : Nat) (X : ZX E (zmV P) A "FrameMachineModel" cc nL ret fr lo) (d : decode cc pc = .ok (.invokevirtual 222, 3)) (hfr : 0 + 1 ≤ fr) (hlo : 8 + (4 + 11) + 0 ≤ lo) (hr : (rest.map fun v => v.category).sum ≤ 8) (hq : pc + 3 = q) (kk : ∀ p : Int32 × ZS, ZJ E (zmV P) A nL F q L (.int p.1 :: rest) p.2 (K p)) : ZJ E (zmV P) A nL F pc L (.int x1 :: .ref (P.1 0) :: rest) σ ((f_M_holds σ x1).bind K) :=
  zj_cVi q 0 0 (As := [.int x1]) (rest := rest) X kc_M_222 hfr hlo (fun p h => c_M_holds (zx_v X) σ x1 h) rfl rfl rfl hr d hq kk
-- FrameMachineModel.branches(I)V
theorem kd_M_branches_0 : decode b_M_branches 0 = .ok (.aload_n 0, 1) := by decide +kernel
theorem kd_M_branches_1 : decode b_M_branches 1 = .ok (.getfield 103, 3) := by decide +kernel
theorem kd_M_branches_4 : decode b_M_branches 4 = .ok (.istore_n 2, 1) := by decide +kernel
theorem kd_M_branches_5 : decode b_M_branches 5 = .ok (.aload_n 0, 1) := by decide +kernel
theorem kd_M_branches_6 : decode b_M_branches 6 = .ok (.invokevirtual 110, 3) := by decide +kernel
theorem kd_M_branches_9 : decode b_M_branches 9 = .ok (.istore_n 3, 1) := by decide +kernel
theorem kd_M_branches_10 : decode b_M_branches 10 = .ok (.aload_n 0, 1) := by decide +kernel
theorem kd_M_branches_11 : decode b_M_branches 11 = .ok (.getfield 64, 3) := by decide +kernel
theorem kd_M_branches_14 : decode b_M_branches 14 = .ok (.ifCond .eq 4, 3) := by decide +kernel
theorem kd_M_branches_17 : decode b_M_branches 17 = .ok (.return_, 1) := by decide +kernel
theorem kd_M_branches_18 : decode b_M_branches 18 = .ok (.iload_n 1, 1) := by decide +kernel
theorem kd_M_branches_19 : decode b_M_branches 19 = .ok (.iconst 1, 1) := by decide +kernel
theorem kd_M_branches_20 : decode b_M_branches 20 = .ok (.if_icmp .ne 17, 3) := by decide +kernel
theorem kd_M_branches_23 : decode b_M_branches 23 = .ok (.aload_n 0, 1) := by decide +kernel
theorem kd_M_branches_24 : decode b_M_branches 24 = .ok (.iconst 2, 1) := by decide +kernel
theorem kd_M_branches_25 : decode b_M_branches 25 = .ok (.aload_n 0, 1) := by decide +kernel
theorem kd_M_branches_26 : decode b_M_branches 26 = .ok (.getfield 103, 3) := by decide +kernel
theorem kd_M_branches_29 : decode b_M_branches 29 = .ok (.i2l, 1) := by decide +kernel
theorem kd_M_branches_30 : decode b_M_branches 30 = .ok (.ldc2_w 67, 3) := by decide +kernel
theorem kd_M_branches_33 : decode b_M_branches 33 = .ok (.land, 1) := by decide +kernel
theorem kd_M_branches_34 : decode b_M_branches 34 = .ok (.invokevirtual 218, 3) := by decide +kernel
theorem kd_M_branches_37 : decode b_M_branches 37 = .ok (.aload_n 0, 1) := by decide +kernel
theorem kd_M_branches_38 : decode b_M_branches 38 = .ok (.aload_n 0, 1) := by decide +kernel
theorem kd_M_branches_39 : decode b_M_branches 39 = .ok (.getfield 64, 3) := by decide +kernel
theorem kd_M_branches_42 : decode b_M_branches 42 = .ok (.ifCond .ne 22, 3) := by decide +kernel
theorem kd_M_branches_45 : decode b_M_branches 45 = .ok (.aload_n 0, 1) := by decide +kernel
theorem kd_M_branches_46 : decode b_M_branches 46 = .ok (.iload_n 1, 1) := by decide +kernel
theorem kd_M_branches_47 : decode b_M_branches 47 = .ok (.invokevirtual 222, 3) := by decide +kernel
theorem kd_M_branches_50 : decode b_M_branches 50 = .ok (.ifCond .eq 14, 3) := by decide +kernel
theorem kd_M_branches_53 : decode b_M_branches 53 = .ok (.iload_n 2, 1) := by decide +kernel
theorem kd_M_branches_54 : decode b_M_branches 54 = .ok (.iload_n 3, 1) := by decide +kernel
theorem kd_M_branches_55 : decode b_M_branches 55 = .ok (.i2l, 1) := by decide +kernel
theorem kd_M_branches_56 : decode b_M_branches 56 = .ok (.iconst 1, 1) := by decide +kernel
theorem kd_M_branches_57 : decode b_M_branches 57 = .ok (.invokestatic 154, 3) := by decide +kernel
theorem kd_M_branches_60 : decode b_M_branches 60 = .ok (.iadd, 1) := by decide +kernel
theorem kd_M_branches_61 : decode b_M_branches 61 = .ok (.goto 7, 3) := by decide +kernel
theorem kd_M_branches_64 : decode b_M_branches 64 = .ok (.aload_n 0, 1) := by decide +kernel
theorem kd_M_branches_65 : decode b_M_branches 65 = .ok (.getfield 103, 3) := by decide +kernel
theorem kd_M_branches_68 : decode b_M_branches 68 = .ok (.putfield 103, 3) := by decide +kernel
theorem kd_M_branches_71 : decode b_M_branches 71 = .ok (.return_, 1) := by decide +kernel
noncomputable def f_M_branches_68 (s0 : ZS) (t0 : Int32) : Option (ZS) :=
  zs_nm (zs_up s0 0 2 t0) fun s3 =>
  some s3
noncomputable def f_M_branches_64 (s0 : ZS)  : Option (ZS) :=
  f_M_branches_68 s0 ((s0 0 2))
noncomputable def f_M_branches_37 (s0 : ZS) (l1 : Int32) (l2 : Int32) (l3 : Int32) : Option (ZS) :=
  if (s0 0 15) = 0 then
    (f_M_holds s0 l1).bind fun p4 =>
    if p4.1 = 0 then
      f_M_branches_64 p4.2
    else
      (f_M_signed p4.2 (l3.toInt64) 1).bind fun p5 =>
      f_M_branches_68 p5.2 ((l2 + p5.1))
  else
    f_M_branches_64 s0
noncomputable def f_M_branches (s0 : ZS) (x1 : Int32) : Option (ZS) :=
  zs_nm (s0 0 2) fun v1 =>
  (f_M_fetch s0 ).bind fun p2 =>
  if (p2.2 0 15) = 0 then
    if x1 = 1 then
      (f_M_push p2.2 2 (((p2.2 0 2).toInt64) &&& 4294967295)).bind fun s6 =>
      f_M_branches_37 s6 x1 v1 p2.1
    else
      f_M_branches_37 p2.2 x1 v1 p2.1
  else
    some p2.2
theorem j_M_branches_68 {P : ZP} {E : ZE} {A : Nat → Prop} (X : ZX E (zmV P) A "FrameMachineModel" b_M_branches 4 none 3 75) (s0 : ZS) (t0 : Int32) : ZJ E (zmV P) A 4 (zFv E (zmV P) A) 68 [] [.int t0, .ref (P.1 0)] s0 (f_M_branches_68 s0 t0) := by
  unfold f_M_branches_68
  refine pf_M_103 71 X kd_M_branches_68 rfl ?_
  refine zj_nms (fun s3 => ?_)
  exact zj_vret X kd_M_branches_71
theorem j_M_branches_64 {P : ZP} {E : ZE} {A : Nat → Prop} (X : ZX E (zmV P) A "FrameMachineModel" b_M_branches 4 none 3 75) (s0 : ZS)  : ZJ E (zmV P) A 4 (zFv E (zmV P) A) 64 [(0, .ref (P.1 0))] [.ref (P.1 0)] s0 (f_M_branches_64 s0) := by
  unfold f_M_branches_64
  refine zj_aload_n 65 0 X kd_M_branches_64 rfl rfl rfl ?_
  refine gf_M_103 68 X kd_M_branches_65 rfl ?_
  refine zj_loc [] (L2 := []) rfl ?_
  exact j_M_branches_68 X s0 ((s0 0 2))
theorem j_M_branches_37 {P : ZP} {E : ZE} {A : Nat → Prop} (X : ZX E (zmV P) A "FrameMachineModel" b_M_branches 4 none 3 75) (s0 : ZS) (l1 : Int32) (l2 : Int32) (l3 : Int32) : ZJ E (zmV P) A 4 (zFv E (zmV P) A) 37 [(0, .ref (P.1 0)), (1, .int l1), (2, .int l2), (3, .int l3)] [] s0 (f_M_branches_37 s0 l1 l2 l3) := by
  unfold f_M_branches_37
  refine zj_aload_n 38 0 X kd_M_branches_37 rfl rfl rfl ?_
  refine zj_aload_n 39 0 X kd_M_branches_38 rfl rfl rfl ?_
  refine gf_M_64 42 X kd_M_branches_39 rfl ?_
  refine zj_if_ne 64 45 X kd_M_branches_42 rfl rfl (fun _ => ?_) (fun _ => ?_)
  · refine zj_aload_n 46 0 X kd_M_branches_45 rfl rfl rfl ?_
    refine zj_iload_n 47 1 X kd_M_branches_46 rfl rfl rfl ?_
    refine mc_M_222 50 X kd_M_branches_47 (Nat.le_of_ble_eq_true rfl) (Nat.le_of_ble_eq_true rfl) (Nat.le_of_ble_eq_true rfl) rfl (fun p4 => ?_)
    refine zj_if_eq 64 53 X kd_M_branches_50 rfl rfl (fun _ => ?_) (fun _ => ?_)
    · refine zj_loc [0] (L2 := [(0, .ref (P.1 0))]) rfl ?_
      exact j_M_branches_64 X p4.2
    · refine zj_iload_n 54 2 X kd_M_branches_53 rfl rfl rfl ?_
      refine zj_iload_n 55 3 X kd_M_branches_54 rfl rfl rfl ?_
      refine zj_i2l 56 X kd_M_branches_55 rfl ?_
      refine zj_iconst 57 1 X kd_M_branches_56 ki_1 rfl ?_
      refine mc_M_154 60 X kd_M_branches_57 (Nat.le_of_ble_eq_true rfl) (Nat.le_of_ble_eq_true rfl) (Nat.le_of_ble_eq_true rfl) rfl (fun p5 => ?_)
      refine zj_iadd 61 X kd_M_branches_60 rfl ?_
      refine zj_goto 68 X kd_M_branches_61 rfl ?_
      refine zj_loc [] (L2 := []) rfl ?_
      exact j_M_branches_68 X p5.2 ((l2 + p5.1))
  · refine zj_loc [0] (L2 := [(0, .ref (P.1 0))]) rfl ?_
    exact j_M_branches_64 X s0
theorem j_M_branches {P : ZP} {E : ZE} {A : Nat → Prop} (X : ZX E (zmV P) A "FrameMachineModel" b_M_branches 4 none 3 75) (s0 : ZS) (x1 : Int32) : ZJ E (zmV P) A 4 (zFv E (zmV P) A) 0 [(0, .ref (P.1 0)), (1, .int x1)] [] s0 (f_M_branches s0 x1) := by
  unfold f_M_branches
  refine zj_aload_n 1 0 X kd_M_branches_0 rfl rfl rfl ?_
  refine gf_M_103 4 X kd_M_branches_1 rfl ?_
  refine zj_nmi (fun v1 => ?_)
  refine zj_istore_n 5 [(2, .int v1), (0, .ref (P.1 0)), (1, .int x1)] X kd_M_branches_4 rfl (Nat.le_of_ble_eq_true rfl) rfl rfl ?_
  refine zj_aload_n 6 1 X kd_M_branches_5 rfl rfl rfl ?_
  refine mc_M_110 9 X kd_M_branches_6 (Nat.le_of_ble_eq_true rfl) (Nat.le_of_ble_eq_true rfl) (Nat.le_of_ble_eq_true rfl) rfl (fun p2 => ?_)
  refine zj_istore_n 10 [(3, .int p2.1), (2, .int v1), (0, .ref (P.1 0)), (1, .int x1)] X kd_M_branches_9 rfl (Nat.le_of_ble_eq_true rfl) rfl rfl ?_
  refine zj_aload_n 11 2 X kd_M_branches_10 rfl rfl rfl ?_
  refine gf_M_64 14 X kd_M_branches_11 rfl ?_
  refine zj_if_eq 18 17 X kd_M_branches_14 rfl rfl (fun _ => ?_) (fun _ => ?_)
  · refine zj_iload_n 19 3 X kd_M_branches_18 rfl rfl rfl ?_
    refine zj_iconst 20 1 X kd_M_branches_19 ki_1 rfl ?_
    refine zj_icmp_ne 37 23 X kd_M_branches_20 rfl rfl (fun _ => ?_) (fun _ => ?_)
    · refine zj_aload_n 24 2 X kd_M_branches_23 rfl rfl rfl ?_
      refine zj_iconst 25 2 X kd_M_branches_24 ki_2 rfl ?_
      refine zj_aload_n 26 2 X kd_M_branches_25 rfl rfl rfl ?_
      refine gf_M_103 29 X kd_M_branches_26 rfl ?_
      refine zj_i2l 30 X kd_M_branches_29 rfl ?_
      refine zj_ldc2 33 4294967295 X kd_M_branches_30 kw_911 rfl ?_
      refine zj_land 34 X kd_M_branches_33 rfl ?_
      refine mc_M_218 37 X kd_M_branches_34 (Nat.le_of_ble_eq_true rfl) (Nat.le_of_ble_eq_true rfl) (Nat.le_of_ble_eq_true rfl) rfl (fun s6 => ?_)
      refine zj_loc [2, 3, 1, 0] (L2 := [(0, .ref (P.1 0)), (1, .int x1), (2, .int v1), (3, .int p2.1)]) rfl ?_
      exact j_M_branches_37 X s6 x1 v1 p2.1
    · refine zj_loc [2, 3, 1, 0] (L2 := [(0, .ref (P.1 0)), (1, .int x1), (2, .int v1), (3, .int p2.1)]) rfl ?_
      exact j_M_branches_37 X p2.2 x1 v1 p2.1
  · exact zj_vret X kd_M_branches_17
theorem c_M_branches {l : Launch} {P : ZP} (hV : ZVok (zmV P)) (s0 : ZS) (x1 : Int32) {z : ZS} (h : f_M_branches s0 x1 = some z) : zMv l y_M_branches b_M_branches 4 none 3 75 (zmV P) s0 [.ref (P.1 0), .int x1] z :=
  zMv_of (by decide +kernel) rfl rfl (Nat.le_of_ble_eq_true rfl) hV (fun _ X => j_M_branches X s0 x1) h
theorem kc_M_243 : zCV "FrameMachineModel" 243 y_M_branches b_M_branches 4 none 1 := ⟨⟨kw_998, kw_1000, ksel_46, kw_11, kw_1001⟩, by decide +kernel, by decide +kernel, by decide +kernel⟩
theorem mc_M_243 {ρ : Type} {E : ZE} {P : ZP} {A : Nat → Prop} {cc : ByteArray} {nL : Nat} {ret : Option FieldType} {fr lo : Nat} {F : ρ → State → Prop} {pc : Nat} {L : List (Nat × Value)} {rest : List Value} {σ : ZS} {x1 : Int32} {K : ZS → Option ρ} (q : Nat) (X : ZX E (zmV P) A "FrameMachineModel" cc nL ret fr lo) (d : decode cc pc = .ok (.invokevirtual 243, 3)) (hfr : 3 + 1 ≤ fr) (hlo : 8 + (4 + 11) + 75 ≤ lo) (hr : (rest.map fun v => v.category).sum ≤ 8) (hq : pc + 3 = q) (kk : ∀ p : ZS, ZJ E (zmV P) A nL F q L (rest) p (K p)) : ZJ E (zmV P) A nL F pc L (.int x1 :: .ref (P.1 0) :: rest) σ ((f_M_branches σ x1).bind K) :=
  zj_cVv q 0 0 (As := [.int x1]) (rest := rest) X kc_M_243 hfr hlo (fun p h => c_M_branches (zx_v X) σ x1 h) rfl rfl rfl hr d hq kk
-- FrameMachineModel.returns(I)V
theorem kd_M_returns_0 : decode b_M_returns 0 = .ok (.iload_n 1, 1) := by decide +kernel
theorem kd_M_returns_1 : decode b_M_returns 1 = .ok (.iconst 1, 1) := by decide +kernel
theorem kd_M_returns_2 : decode b_M_returns 2 = .ok (.if_icmp .ne 31, 3) := by decide +kernel
theorem kd_M_returns_5 : decode b_M_returns 5 = .ok (.aload_n 0, 1) := by decide +kernel
theorem kd_M_returns_6 : decode b_M_returns 6 = .ok (.iconst 2, 1) := by decide +kernel
theorem kd_M_returns_7 : decode b_M_returns 7 = .ok (.invokevirtual 226, 3) := by decide +kernel
theorem kd_M_returns_10 : decode b_M_returns 10 = .ok (.istore_n 2, 1) := by decide +kernel
theorem kd_M_returns_11 : decode b_M_returns 11 = .ok (.aload_n 0, 1) := by decide +kernel
theorem kd_M_returns_12 : decode b_M_returns 12 = .ok (.aload_n 0, 1) := by decide +kernel
theorem kd_M_returns_13 : decode b_M_returns 13 = .ok (.getfield 64, 3) := by decide +kernel
theorem kd_M_returns_16 : decode b_M_returns 16 = .ok (.ifCond .ne 7, 3) := by decide +kernel
theorem kd_M_returns_19 : decode b_M_returns 19 = .ok (.iload_n 2, 1) := by decide +kernel
theorem kd_M_returns_20 : decode b_M_returns 20 = .ok (.goto 7, 3) := by decide +kernel
theorem kd_M_returns_23 : decode b_M_returns 23 = .ok (.aload_n 0, 1) := by decide +kernel
theorem kd_M_returns_24 : decode b_M_returns 24 = .ok (.getfield 103, 3) := by decide +kernel
theorem kd_M_returns_27 : decode b_M_returns 27 = .ok (.putfield 103, 3) := by decide +kernel
theorem kd_M_returns_30 : decode b_M_returns 30 = .ok (.goto 89, 3) := by decide +kernel
theorem kd_M_returns_33 : decode b_M_returns 33 = .ok (.iload_n 1, 1) := by decide +kernel
theorem kd_M_returns_34 : decode b_M_returns 34 = .ok (.iconst 2, 1) := by decide +kernel
theorem kd_M_returns_35 : decode b_M_returns 35 = .ok (.if_icmp .ne 35, 3) := by decide +kernel
theorem kd_M_returns_38 : decode b_M_returns 38 = .ok (.aload_n 0, 1) := by decide +kernel
theorem kd_M_returns_39 : decode b_M_returns 39 = .ok (.iconst 1, 1) := by decide +kernel
theorem kd_M_returns_40 : decode b_M_returns 40 = .ok (.invokevirtual 226, 3) := by decide +kernel
theorem kd_M_returns_43 : decode b_M_returns 43 = .ok (.istore_n 2, 1) := by decide +kernel
theorem kd_M_returns_44 : decode b_M_returns 44 = .ok (.aload_n 0, 1) := by decide +kernel
theorem kd_M_returns_45 : decode b_M_returns 45 = .ok (.iconst 2, 1) := by decide +kernel
theorem kd_M_returns_46 : decode b_M_returns 46 = .ok (.invokevirtual 226, 3) := by decide +kernel
theorem kd_M_returns_49 : decode b_M_returns 49 = .ok (.istore_n 3, 1) := by decide +kernel
theorem kd_M_returns_50 : decode b_M_returns 50 = .ok (.aload_n 0, 1) := by decide +kernel
theorem kd_M_returns_51 : decode b_M_returns 51 = .ok (.getfield 64, 3) := by decide +kernel
theorem kd_M_returns_54 : decode b_M_returns 54 = .ok (.ifCond .ne 13, 3) := by decide +kernel
theorem kd_M_returns_57 : decode b_M_returns 57 = .ok (.aload_n 0, 1) := by decide +kernel
theorem kd_M_returns_58 : decode b_M_returns 58 = .ok (.iload_n 3, 1) := by decide +kernel
theorem kd_M_returns_59 : decode b_M_returns 59 = .ok (.putfield 103, 3) := by decide +kernel
theorem kd_M_returns_62 : decode b_M_returns 62 = .ok (.aload_n 0, 1) := by decide +kernel
theorem kd_M_returns_63 : decode b_M_returns 63 = .ok (.iload_n 2, 1) := by decide +kernel
theorem kd_M_returns_64 : decode b_M_returns 64 = .ok (.invokevirtual 215, 3) := by decide +kernel
theorem kd_M_returns_67 : decode b_M_returns 67 = .ok (.goto 52, 3) := by decide +kernel
theorem kd_M_returns_70 : decode b_M_returns 70 = .ok (.iload_n 1, 1) := by decide +kernel
theorem kd_M_returns_71 : decode b_M_returns 71 = .ok (.iconst 3, 1) := by decide +kernel
theorem kd_M_returns_72 : decode b_M_returns 72 = .ok (.if_icmp .ne 28, 3) := by decide +kernel
theorem kd_M_returns_75 : decode b_M_returns 75 = .ok (.aload_n 0, 1) := by decide +kernel
theorem kd_M_returns_76 : decode b_M_returns 76 = .ok (.invokevirtual 110, 3) := by decide +kernel
theorem kd_M_returns_79 : decode b_M_returns 79 = .ok (.istore_n 2, 1) := by decide +kernel
theorem kd_M_returns_80 : decode b_M_returns 80 = .ok (.aload_n 0, 1) := by decide +kernel
theorem kd_M_returns_81 : decode b_M_returns 81 = .ok (.getfield 64, 3) := by decide +kernel
theorem kd_M_returns_84 : decode b_M_returns 84 = .ok (.ifCond .ne 13, 3) := by decide +kernel
theorem kd_M_returns_87 : decode b_M_returns 87 = .ok (.aload_n 0, 1) := by decide +kernel
theorem kd_M_returns_88 : decode b_M_returns 88 = .ok (.iload_n 2, 1) := by decide +kernel
theorem kd_M_returns_89 : decode b_M_returns 89 = .ok (.invokevirtual 215, 3) := by decide +kernel
theorem kd_M_returns_92 : decode b_M_returns 92 = .ok (.aload_n 0, 1) := by decide +kernel
theorem kd_M_returns_93 : decode b_M_returns 93 = .ok (.iconst 1, 1) := by decide +kernel
theorem kd_M_returns_94 : decode b_M_returns 94 = .ok (.putfield 229, 3) := by decide +kernel
theorem kd_M_returns_97 : decode b_M_returns 97 = .ok (.goto 22, 3) := by decide +kernel
theorem kd_M_returns_100 : decode b_M_returns 100 = .ok (.iload_n 1, 1) := by decide +kernel
theorem kd_M_returns_101 : decode b_M_returns 101 = .ok (.iconst 4, 1) := by decide +kernel
theorem kd_M_returns_102 : decode b_M_returns 102 = .ok (.if_icmp .ne 17, 3) := by decide +kernel
theorem kd_M_returns_105 : decode b_M_returns 105 = .ok (.aload_n 0, 1) := by decide +kernel
theorem kd_M_returns_106 : decode b_M_returns 106 = .ok (.getfield 131, 3) := by decide +kernel
theorem kd_M_returns_109 : decode b_M_returns 109 = .ok (.iconst 1, 1) := by decide +kernel
theorem kd_M_returns_110 : decode b_M_returns 110 = .ok (.if_icmp .ne 9, 3) := by decide +kernel
theorem kd_M_returns_113 : decode b_M_returns 113 = .ok (.aload_n 0, 1) := by decide +kernel
theorem kd_M_returns_114 : decode b_M_returns 114 = .ok (.bipush 7, 2) := by decide +kernel
theorem kd_M_returns_116 : decode b_M_returns 116 = .ok (.putfield 174, 3) := by decide +kernel
theorem kd_M_returns_119 : decode b_M_returns 119 = .ok (.return_, 1) := by decide +kernel
noncomputable def f_M_returns_97 (s0 : ZS)  : Option (ZS) :=
  some s0
noncomputable def f_M_returns_67 (s0 : ZS)  : Option (ZS) :=
  some s0
noncomputable def f_M_returns_27 (s0 : ZS) (t0 : Int32) : Option (ZS) :=
  zs_nm (zs_up s0 0 2 t0) fun s10 =>
  some s10
noncomputable def f_M_returns (s0 : ZS) (x1 : Int32) : Option (ZS) :=
  if x1 = 1 then
    (f_M_pop s0 2).bind fun p9 =>
    if (p9.2 0 15) = 0 then
      f_M_returns_27 p9.2 p9.1
    else
      f_M_returns_27 p9.2 ((p9.2 0 2))
  else
    if x1 = 2 then
      (f_M_pop s0 1).bind fun p5 =>
      (f_M_pop p5.2 2).bind fun p6 =>
      if (p6.2 0 15) = 0 then
        zs_nm (zs_up p6.2 0 2 p6.1) fun s7 =>
        (f_M_setStatus s7 p5.1).bind fun s8 =>
        f_M_returns_67 s8
      else
        f_M_returns_67 p6.2
    else
      if x1 = 3 then
        (f_M_fetch s0 ).bind fun p2 =>
        if (p2.2 0 15) = 0 then
          (f_M_setStatus p2.2 p2.1).bind fun s3 =>
          zs_nm (zs_up s3 0 11 1) fun s4 =>
          f_M_returns_97 s4
        else
          f_M_returns_97 p2.2
      else
        if x1 = 4 then
          if (s0 0 9) = 1 then
            zs_nm (zs_up s0 0 19 7) fun s1 =>
            some s1
          else
            some s0
        else
          some s0
theorem j_M_returns_97 {P : ZP} {E : ZE} {A : Nat → Prop} (X : ZX E (zmV P) A "FrameMachineModel" b_M_returns 4 none 3 74) (s0 : ZS)  : ZJ E (zmV P) A 4 (zFv E (zmV P) A) 97 [] [] s0 (f_M_returns_97 s0) := by
  unfold f_M_returns_97
  refine zj_goto 119 X kd_M_returns_97 rfl ?_
  exact zj_vret X kd_M_returns_119
theorem j_M_returns_67 {P : ZP} {E : ZE} {A : Nat → Prop} (X : ZX E (zmV P) A "FrameMachineModel" b_M_returns 4 none 3 74) (s0 : ZS)  : ZJ E (zmV P) A 4 (zFv E (zmV P) A) 67 [] [] s0 (f_M_returns_67 s0) := by
  unfold f_M_returns_67
  refine zj_goto 119 X kd_M_returns_67 rfl ?_
  exact zj_vret X kd_M_returns_119
theorem j_M_returns_27 {P : ZP} {E : ZE} {A : Nat → Prop} (X : ZX E (zmV P) A "FrameMachineModel" b_M_returns 4 none 3 74) (s0 : ZS) (t0 : Int32) : ZJ E (zmV P) A 4 (zFv E (zmV P) A) 27 [] [.int t0, .ref (P.1 0)] s0 (f_M_returns_27 s0 t0) := by
  unfold f_M_returns_27
  refine pf_M_103 30 X kd_M_returns_27 rfl ?_
  refine zj_nms (fun s10 => ?_)
  refine zj_goto 119 X kd_M_returns_30 rfl ?_
  exact zj_vret X kd_M_returns_119
theorem j_M_returns {P : ZP} {E : ZE} {A : Nat → Prop} (X : ZX E (zmV P) A "FrameMachineModel" b_M_returns 4 none 3 74) (s0 : ZS) (x1 : Int32) : ZJ E (zmV P) A 4 (zFv E (zmV P) A) 0 [(0, .ref (P.1 0)), (1, .int x1)] [] s0 (f_M_returns s0 x1) := by
  unfold f_M_returns
  refine zj_iload_n 1 1 X kd_M_returns_0 rfl rfl rfl ?_
  refine zj_iconst 2 1 X kd_M_returns_1 ki_1 rfl ?_
  refine zj_icmp_ne 33 5 X kd_M_returns_2 rfl rfl (fun _ => ?_) (fun _ => ?_)
  · refine zj_aload_n 6 0 X kd_M_returns_5 rfl rfl rfl ?_
    refine zj_iconst 7 2 X kd_M_returns_6 ki_2 rfl ?_
    refine mc_M_226 10 X kd_M_returns_7 (Nat.le_of_ble_eq_true rfl) (Nat.le_of_ble_eq_true rfl) (Nat.le_of_ble_eq_true rfl) rfl (fun p9 => ?_)
    refine zj_istore_n 11 [(2, .int p9.1), (0, .ref (P.1 0)), (1, .int x1)] X kd_M_returns_10 rfl (Nat.le_of_ble_eq_true rfl) rfl rfl ?_
    refine zj_aload_n 12 1 X kd_M_returns_11 rfl rfl rfl ?_
    refine zj_aload_n 13 1 X kd_M_returns_12 rfl rfl rfl ?_
    refine gf_M_64 16 X kd_M_returns_13 rfl ?_
    refine zj_if_ne 23 19 X kd_M_returns_16 rfl rfl (fun _ => ?_) (fun _ => ?_)
    · refine zj_iload_n 20 0 X kd_M_returns_19 rfl rfl rfl ?_
      refine zj_goto 27 X kd_M_returns_20 rfl ?_
      refine zj_loc [] (L2 := []) rfl ?_
      exact j_M_returns_27 X p9.2 p9.1
    · refine zj_aload_n 24 1 X kd_M_returns_23 rfl rfl rfl ?_
      refine gf_M_103 27 X kd_M_returns_24 rfl ?_
      refine zj_loc [] (L2 := []) rfl ?_
      exact j_M_returns_27 X p9.2 ((p9.2 0 2))
  · refine zj_iload_n 34 1 X kd_M_returns_33 rfl rfl rfl ?_
    refine zj_iconst 35 2 X kd_M_returns_34 ki_2 rfl ?_
    refine zj_icmp_ne 70 38 X kd_M_returns_35 rfl rfl (fun _ => ?_) (fun _ => ?_)
    · refine zj_aload_n 39 0 X kd_M_returns_38 rfl rfl rfl ?_
      refine zj_iconst 40 1 X kd_M_returns_39 ki_1 rfl ?_
      refine mc_M_226 43 X kd_M_returns_40 (Nat.le_of_ble_eq_true rfl) (Nat.le_of_ble_eq_true rfl) (Nat.le_of_ble_eq_true rfl) rfl (fun p5 => ?_)
      refine zj_istore_n 44 [(2, .int p5.1), (0, .ref (P.1 0)), (1, .int x1)] X kd_M_returns_43 rfl (Nat.le_of_ble_eq_true rfl) rfl rfl ?_
      refine zj_aload_n 45 1 X kd_M_returns_44 rfl rfl rfl ?_
      refine zj_iconst 46 2 X kd_M_returns_45 ki_2 rfl ?_
      refine mc_M_226 49 X kd_M_returns_46 (Nat.le_of_ble_eq_true rfl) (Nat.le_of_ble_eq_true rfl) (Nat.le_of_ble_eq_true rfl) rfl (fun p6 => ?_)
      refine zj_istore_n 50 [(3, .int p6.1), (2, .int p5.1), (0, .ref (P.1 0)), (1, .int x1)] X kd_M_returns_49 rfl (Nat.le_of_ble_eq_true rfl) rfl rfl ?_
      refine zj_aload_n 51 2 X kd_M_returns_50 rfl rfl rfl ?_
      refine gf_M_64 54 X kd_M_returns_51 rfl ?_
      refine zj_if_ne 67 57 X kd_M_returns_54 rfl rfl (fun _ => ?_) (fun _ => ?_)
      · refine zj_aload_n 58 2 X kd_M_returns_57 rfl rfl rfl ?_
        refine zj_iload_n 59 0 X kd_M_returns_58 rfl rfl rfl ?_
        refine pf_M_103 62 X kd_M_returns_59 rfl ?_
        refine zj_nms (fun s7 => ?_)
        refine zj_aload_n 63 2 X kd_M_returns_62 rfl rfl rfl ?_
        refine zj_iload_n 64 1 X kd_M_returns_63 rfl rfl rfl ?_
        refine mc_M_215 67 X kd_M_returns_64 (Nat.le_of_ble_eq_true rfl) (Nat.le_of_ble_eq_true rfl) (Nat.le_of_ble_eq_true rfl) rfl (fun s8 => ?_)
        refine zj_loc [] (L2 := []) rfl ?_
        exact j_M_returns_67 X s8
      · refine zj_loc [] (L2 := []) rfl ?_
        exact j_M_returns_67 X p6.2
    · refine zj_iload_n 71 1 X kd_M_returns_70 rfl rfl rfl ?_
      refine zj_iconst 72 3 X kd_M_returns_71 ki_3 rfl ?_
      refine zj_icmp_ne 100 75 X kd_M_returns_72 rfl rfl (fun _ => ?_) (fun _ => ?_)
      · refine zj_aload_n 76 0 X kd_M_returns_75 rfl rfl rfl ?_
        refine mc_M_110 79 X kd_M_returns_76 (Nat.le_of_ble_eq_true rfl) (Nat.le_of_ble_eq_true rfl) (Nat.le_of_ble_eq_true rfl) rfl (fun p2 => ?_)
        refine zj_istore_n 80 [(2, .int p2.1), (0, .ref (P.1 0)), (1, .int x1)] X kd_M_returns_79 rfl (Nat.le_of_ble_eq_true rfl) rfl rfl ?_
        refine zj_aload_n 81 1 X kd_M_returns_80 rfl rfl rfl ?_
        refine gf_M_64 84 X kd_M_returns_81 rfl ?_
        refine zj_if_ne 97 87 X kd_M_returns_84 rfl rfl (fun _ => ?_) (fun _ => ?_)
        · refine zj_aload_n 88 1 X kd_M_returns_87 rfl rfl rfl ?_
          refine zj_iload_n 89 0 X kd_M_returns_88 rfl rfl rfl ?_
          refine mc_M_215 92 X kd_M_returns_89 (Nat.le_of_ble_eq_true rfl) (Nat.le_of_ble_eq_true rfl) (Nat.le_of_ble_eq_true rfl) rfl (fun s3 => ?_)
          refine zj_aload_n 93 1 X kd_M_returns_92 rfl rfl rfl ?_
          refine zj_iconst 94 1 X kd_M_returns_93 ki_1 rfl ?_
          refine pf_M_229 97 X kd_M_returns_94 rfl ?_
          refine zj_nms (fun s4 => ?_)
          refine zj_loc [] (L2 := []) rfl ?_
          exact j_M_returns_97 X s4
        · refine zj_loc [] (L2 := []) rfl ?_
          exact j_M_returns_97 X p2.2
      · refine zj_iload_n 101 1 X kd_M_returns_100 rfl rfl rfl ?_
        refine zj_iconst 102 4 X kd_M_returns_101 ki_4 rfl ?_
        refine zj_icmp_ne 119 105 X kd_M_returns_102 rfl rfl (fun _ => ?_) (fun _ => ?_)
        · refine zj_aload_n 106 0 X kd_M_returns_105 rfl rfl rfl ?_
          refine gf_M_131 109 X kd_M_returns_106 rfl ?_
          refine zj_iconst 110 1 X kd_M_returns_109 ki_1 rfl ?_
          refine zj_icmp_ne 119 113 X kd_M_returns_110 rfl rfl (fun _ => ?_) (fun _ => ?_)
          · refine zj_aload_n 114 0 X kd_M_returns_113 rfl rfl rfl ?_
            refine zj_bipush 116 7 X kd_M_returns_114 kb_7 rfl ?_
            refine pf_M_174 119 X kd_M_returns_116 rfl ?_
            refine zj_nms (fun s1 => ?_)
            exact zj_vret X kd_M_returns_119
          · exact zj_vret X kd_M_returns_119
        · exact zj_vret X kd_M_returns_119
theorem c_M_returns {l : Launch} {P : ZP} (hV : ZVok (zmV P)) (s0 : ZS) (x1 : Int32) {z : ZS} (h : f_M_returns s0 x1 = some z) : zMv l y_M_returns b_M_returns 4 none 3 74 (zmV P) s0 [.ref (P.1 0), .int x1] z :=
  zMv_of (by decide +kernel) rfl rfl (Nat.le_of_ble_eq_true rfl) hV (fun _ X => j_M_returns X s0 x1) h
theorem kc_M_246 : zCV "FrameMachineModel" 246 y_M_returns b_M_returns 4 none 1 := ⟨⟨kw_1009, kw_1011, ksel_48, kw_11, kw_1012⟩, by decide +kernel, by decide +kernel, by decide +kernel⟩
theorem mc_M_246 {ρ : Type} {E : ZE} {P : ZP} {A : Nat → Prop} {cc : ByteArray} {nL : Nat} {ret : Option FieldType} {fr lo : Nat} {F : ρ → State → Prop} {pc : Nat} {L : List (Nat × Value)} {rest : List Value} {σ : ZS} {x1 : Int32} {K : ZS → Option ρ} (q : Nat) (X : ZX E (zmV P) A "FrameMachineModel" cc nL ret fr lo) (d : decode cc pc = .ok (.invokevirtual 246, 3)) (hfr : 3 + 1 ≤ fr) (hlo : 8 + (4 + 11) + 74 ≤ lo) (hr : (rest.map fun v => v.category).sum ≤ 8) (hq : pc + 3 = q) (kk : ∀ p : ZS, ZJ E (zmV P) A nL F q L (rest) p (K p)) : ZJ E (zmV P) A nL F pc L (.int x1 :: .ref (P.1 0) :: rest) σ ((f_M_returns σ x1).bind K) :=
  zj_cVv q 0 0 (As := [.int x1]) (rest := rest) X kc_M_246 hfr hlo (fun p h => c_M_returns (zx_v X) σ x1 h) rfl rfl rfl hr d hq kk
-- FrameMachineModel.others(IIIII)V
theorem kd_M_others_0 : decode b_M_others 0 = .ok (.aload_n 0, 1) := by decide +kernel
theorem kd_M_others_1 : decode b_M_others 1 = .ok (.iload 4, 2) := by decide +kernel
theorem kd_M_others_3 : decode b_M_others 3 = .ok (.iload 5, 2) := by decide +kernel
theorem kd_M_others_5 : decode b_M_others 5 = .ok (.iload_n 2, 1) := by decide +kernel
theorem kd_M_others_6 : decode b_M_others 6 = .ok (.invokevirtual 192, 3) := by decide +kernel
theorem kd_M_others_9 : decode b_M_others 9 = .ok (.iload_n 1, 1) := by decide +kernel
theorem kd_M_others_10 : decode b_M_others 10 = .ok (.bipush 27, 2) := by decide +kernel
theorem kd_M_others_12 : decode b_M_others 12 = .ok (.if_icmp .ne 18, 3) := by decide +kernel
theorem kd_M_others_15 : decode b_M_others 15 = .ok (.aload_n 0, 1) := by decide +kernel
theorem kd_M_others_16 : decode b_M_others 16 = .ok (.iload 4, 2) := by decide +kernel
theorem kd_M_others_18 : decode b_M_others 18 = .ok (.iload 5, 2) := by decide +kernel
theorem kd_M_others_20 : decode b_M_others 20 = .ok (.iconst 1, 1) := by decide +kernel
theorem kd_M_others_21 : decode b_M_others 21 = .ok (.aload_n 0, 1) := by decide +kernel
theorem kd_M_others_22 : decode b_M_others 22 = .ok (.invokevirtual 204, 3) := by decide +kernel
theorem kd_M_others_25 : decode b_M_others 25 = .ok (.i2l, 1) := by decide +kernel
theorem kd_M_others_26 : decode b_M_others 26 = .ok (.invokevirtual 196, 3) := by decide +kernel
theorem kd_M_others_29 : decode b_M_others 29 = .ok (.return_, 1) := by decide +kernel
theorem kd_M_others_30 : decode b_M_others 30 = .ok (.iload_n 1, 1) := by decide +kernel
theorem kd_M_others_31 : decode b_M_others 31 = .ok (.bipush 12, 2) := by decide +kernel
theorem kd_M_others_33 : decode b_M_others 33 = .ok (.if_icmp .eq 15, 3) := by decide +kernel
theorem kd_M_others_36 : decode b_M_others 36 = .ok (.iload_n 1, 1) := by decide +kernel
theorem kd_M_others_37 : decode b_M_others 37 = .ok (.bipush 22, 2) := by decide +kernel
theorem kd_M_others_39 : decode b_M_others 39 = .ok (.if_icmp .eq 9, 3) := by decide +kernel
theorem kd_M_others_42 : decode b_M_others 42 = .ok (.iload_n 1, 1) := by decide +kernel
theorem kd_M_others_43 : decode b_M_others 43 = .ok (.bipush 23, 2) := by decide +kernel
theorem kd_M_others_45 : decode b_M_others 45 = .ok (.if_icmp .ne 87, 3) := by decide +kernel
theorem kd_M_others_48 : decode b_M_others 48 = .ok (.aload_n 0, 1) := by decide +kernel
theorem kd_M_others_49 : decode b_M_others 49 = .ok (.getfield 64, 3) := by decide +kernel
theorem kd_M_others_52 : decode b_M_others 52 = .ok (.ifCond .eq 4, 3) := by decide +kernel
theorem kd_M_others_55 : decode b_M_others 55 = .ok (.return_, 1) := by decide +kernel
theorem kd_M_others_56 : decode b_M_others 56 = .ok (.aload_n 0, 1) := by decide +kernel
theorem kd_M_others_57 : decode b_M_others 57 = .ok (.getfield 151, 3) := by decide +kernel
theorem kd_M_others_60 : decode b_M_others 60 = .ok (.istore 6, 2) := by decide +kernel
theorem kd_M_others_62 : decode b_M_others 62 = .ok (.iload_n 1, 1) := by decide +kernel
theorem kd_M_others_63 : decode b_M_others 63 = .ok (.bipush 23, 2) := by decide +kernel
theorem kd_M_others_65 : decode b_M_others 65 = .ok (.if_icmp .ne 17, 3) := by decide +kernel
theorem kd_M_others_68 : decode b_M_others 68 = .ok (.aload_n 0, 1) := by decide +kernel
theorem kd_M_others_69 : decode b_M_others 69 = .ok (.iconst 2, 1) := by decide +kernel
theorem kd_M_others_70 : decode b_M_others 70 = .ok (.aload_n 0, 1) := by decide +kernel
theorem kd_M_others_71 : decode b_M_others 71 = .ok (.getfield 103, 3) := by decide +kernel
theorem kd_M_others_74 : decode b_M_others 74 = .ok (.i2l, 1) := by decide +kernel
theorem kd_M_others_75 : decode b_M_others 75 = .ok (.ldc2_w 67, 3) := by decide +kernel
theorem kd_M_others_78 : decode b_M_others 78 = .ok (.land, 1) := by decide +kernel
theorem kd_M_others_79 : decode b_M_others 79 = .ok (.invokevirtual 218, 3) := by decide +kernel
theorem kd_M_others_82 : decode b_M_others 82 = .ok (.aload_n 0, 1) := by decide +kernel
theorem kd_M_others_83 : decode b_M_others 83 = .ok (.getfield 16, 3) := by decide +kernel
theorem kd_M_others_86 : decode b_M_others 86 = .ok (.iload_n 3, 1) := by decide +kernel
theorem kd_M_others_87 : decode b_M_others 87 = .ok (.iload_n 1, 1) := by decide +kernel
theorem kd_M_others_88 : decode b_M_others 88 = .ok (.bipush 12, 2) := by decide +kernel
theorem kd_M_others_90 : decode b_M_others 90 = .ok (.if_icmp .ne 8, 3) := by decide +kernel
theorem kd_M_others_93 : decode b_M_others 93 = .ok (.iload 6, 2) := by decide +kernel
theorem kd_M_others_95 : decode b_M_others 95 = .ok (.goto 9, 3) := by decide +kernel
theorem kd_M_others_98 : decode b_M_others 98 = .ok (.aload_n 0, 1) := by decide +kernel
theorem kd_M_others_99 : decode b_M_others 99 = .ok (.getfield 16, 3) := by decide +kernel
theorem kd_M_others_102 : decode b_M_others 102 = .ok (.iload_n 3, 1) := by decide +kernel
theorem kd_M_others_103 : decode b_M_others 103 = .ok (.iaload, 1) := by decide +kernel
theorem kd_M_others_104 : decode b_M_others 104 = .ok (.iastore, 1) := by decide +kernel
theorem kd_M_others_105 : decode b_M_others 105 = .ok (.aload_n 0, 1) := by decide +kernel
theorem kd_M_others_106 : decode b_M_others 106 = .ok (.iload_n 1, 1) := by decide +kernel
theorem kd_M_others_107 : decode b_M_others 107 = .ok (.bipush 12, 2) := by decide +kernel
theorem kd_M_others_109 : decode b_M_others 109 = .ok (.if_icmp .eq 15, 3) := by decide +kernel
theorem kd_M_others_112 : decode b_M_others 112 = .ok (.aload_n 0, 1) := by decide +kernel
theorem kd_M_others_113 : decode b_M_others 113 = .ok (.getfield 64, 3) := by decide +kernel
theorem kd_M_others_116 : decode b_M_others 116 = .ok (.ifCond .ne 8, 3) := by decide +kernel
theorem kd_M_others_119 : decode b_M_others 119 = .ok (.iload 6, 2) := by decide +kernel
theorem kd_M_others_121 : decode b_M_others 121 = .ok (.goto 7, 3) := by decide +kernel
theorem kd_M_others_124 : decode b_M_others 124 = .ok (.aload_n 0, 1) := by decide +kernel
theorem kd_M_others_125 : decode b_M_others 125 = .ok (.getfield 103, 3) := by decide +kernel
theorem kd_M_others_128 : decode b_M_others 128 = .ok (.putfield 103, 3) := by decide +kernel
theorem kd_M_others_131 : decode b_M_others 131 = .ok (.return_, 1) := by decide +kernel
theorem kd_M_others_132 : decode b_M_others 132 = .ok (.aload_n 0, 1) := by decide +kernel
theorem kd_M_others_133 : decode b_M_others 133 = .ok (.iload 4, 2) := by decide +kernel
theorem kd_M_others_135 : decode b_M_others 135 = .ok (.iload 5, 2) := by decide +kernel
theorem kd_M_others_137 : decode b_M_others 137 = .ok (.iload_n 2, 1) := by decide +kernel
theorem kd_M_others_138 : decode b_M_others 138 = .ok (.invokevirtual 200, 3) := by decide +kernel
theorem kd_M_others_141 : decode b_M_others 141 = .ok (.lstore 6, 2) := by decide +kernel
theorem kd_M_others_143 : decode b_M_others 143 = .ok (.iload_n 1, 1) := by decide +kernel
theorem kd_M_others_144 : decode b_M_others 144 = .ok (.iconst 2, 1) := by decide +kernel
theorem kd_M_others_145 : decode b_M_others 145 = .ok (.if_icmp .ne 25, 3) := by decide +kernel
theorem kd_M_others_148 : decode b_M_others 148 = .ok (.aload_n 0, 1) := by decide +kernel
theorem kd_M_others_149 : decode b_M_others 149 = .ok (.getfield 64, 3) := by decide +kernel
theorem kd_M_others_152 : decode b_M_others 152 = .ok (.ifCond .ne 18, 3) := by decide +kernel
theorem kd_M_others_155 : decode b_M_others 155 = .ok (.aload_n 0, 1) := by decide +kernel
theorem kd_M_others_156 : decode b_M_others 156 = .ok (.getfield 16, 3) := by decide +kernel
theorem kd_M_others_159 : decode b_M_others 159 = .ok (.iload_n 3, 1) := by decide +kernel
theorem kd_M_others_160 : decode b_M_others 160 = .ok (.lload 6, 2) := by decide +kernel
theorem kd_M_others_162 : decode b_M_others 162 = .ok (.iload_n 2, 1) := by decide +kernel
theorem kd_M_others_163 : decode b_M_others 163 = .ok (.invokestatic 154, 3) := by decide +kernel
theorem kd_M_others_166 : decode b_M_others 166 = .ok (.iastore, 1) := by decide +kernel
theorem kd_M_others_167 : decode b_M_others 167 = .ok (.goto 151, 3) := by decide +kernel
theorem kd_M_others_170 : decode b_M_others 170 = .ok (.iload_n 1, 1) := by decide +kernel
theorem kd_M_others_171 : decode b_M_others 171 = .ok (.bipush 11, 2) := by decide +kernel
theorem kd_M_others_173 : decode b_M_others 173 = .ok (.if_icmp .ne 28, 3) := by decide +kernel
theorem kd_M_others_176 : decode b_M_others 176 = .ok (.aload_n 0, 1) := by decide +kernel
theorem kd_M_others_177 : decode b_M_others 177 = .ok (.getfield 64, 3) := by decide +kernel
theorem kd_M_others_180 : decode b_M_others 180 = .ok (.ifCond .ne 21, 3) := by decide +kernel
theorem kd_M_others_183 : decode b_M_others 183 = .ok (.aload_n 0, 1) := by decide +kernel
theorem kd_M_others_184 : decode b_M_others 184 = .ok (.getfield 16, 3) := by decide +kernel
theorem kd_M_others_187 : decode b_M_others 187 = .ok (.iload_n 3, 1) := by decide +kernel
theorem kd_M_others_188 : decode b_M_others 188 = .ok (.dup2, 1) := by decide +kernel
theorem kd_M_others_189 : decode b_M_others 189 = .ok (.iaload, 1) := by decide +kernel
theorem kd_M_others_190 : decode b_M_others 190 = .ok (.lload 6, 2) := by decide +kernel
theorem kd_M_others_192 : decode b_M_others 192 = .ok (.iload_n 2, 1) := by decide +kernel
theorem kd_M_others_193 : decode b_M_others 193 = .ok (.invokestatic 154, 3) := by decide +kernel
theorem kd_M_others_196 : decode b_M_others 196 = .ok (.iadd, 1) := by decide +kernel
theorem kd_M_others_197 : decode b_M_others 197 = .ok (.iastore, 1) := by decide +kernel
theorem kd_M_others_198 : decode b_M_others 198 = .ok (.goto 120, 3) := by decide +kernel
theorem kd_M_others_201 : decode b_M_others 201 = .ok (.iload_n 1, 1) := by decide +kernel
theorem kd_M_others_202 : decode b_M_others 202 = .ok (.bipush 18, 2) := by decide +kernel
theorem kd_M_others_204 : decode b_M_others 204 = .ok (.if_icmp .ne 45, 3) := by decide +kernel
theorem kd_M_others_207 : decode b_M_others 207 = .ok (.aload_n 0, 1) := by decide +kernel
theorem kd_M_others_208 : decode b_M_others 208 = .ok (.getfield 64, 3) := by decide +kernel
theorem kd_M_others_211 : decode b_M_others 211 = .ok (.ifCond .ne 38, 3) := by decide +kernel
theorem kd_M_others_214 : decode b_M_others 214 = .ok (.aload_n 0, 1) := by decide +kernel
theorem kd_M_others_215 : decode b_M_others 215 = .ok (.getfield 13, 3) := by decide +kernel
theorem kd_M_others_218 : decode b_M_others 218 = .ok (.iload_n 3, 1) := by decide +kernel
theorem kd_M_others_219 : decode b_M_others 219 = .ok (.iaload, 1) := by decide +kernel
theorem kd_M_others_220 : decode b_M_others 220 = .ok (.i2l, 1) := by decide +kernel
theorem kd_M_others_221 : decode b_M_others 221 = .ok (.iconst 1, 1) := by decide +kernel
theorem kd_M_others_222 : decode b_M_others 222 = .ok (.invokestatic 161, 3) := by decide +kernel
theorem kd_M_others_225 : decode b_M_others 225 = .ok (.lload 6, 2) := by decide +kernel
theorem kd_M_others_227 : decode b_M_others 227 = .ok (.lmul, 1) := by decide +kernel
theorem kd_M_others_228 : decode b_M_others 228 = .ok (.lstore 8, 2) := by decide +kernel
theorem kd_M_others_230 : decode b_M_others 230 = .ok (.aload_n 0, 1) := by decide +kernel
theorem kd_M_others_231 : decode b_M_others 231 = .ok (.lload 8, 2) := by decide +kernel
theorem kd_M_others_233 : decode b_M_others 233 = .ok (.iconst 2, 1) := by decide +kernel
theorem kd_M_others_234 : decode b_M_others 234 = .ok (.invokevirtual 170, 3) := by decide +kernel
theorem kd_M_others_237 : decode b_M_others 237 = .ok (.aload_n 0, 1) := by decide +kernel
theorem kd_M_others_238 : decode b_M_others 238 = .ok (.getfield 13, 3) := by decide +kernel
theorem kd_M_others_241 : decode b_M_others 241 = .ok (.iload_n 3, 1) := by decide +kernel
theorem kd_M_others_242 : decode b_M_others 242 = .ok (.lload 8, 2) := by decide +kernel
theorem kd_M_others_244 : decode b_M_others 244 = .ok (.l2i, 1) := by decide +kernel
theorem kd_M_others_245 : decode b_M_others 245 = .ok (.iastore, 1) := by decide +kernel
theorem kd_M_others_246 : decode b_M_others 246 = .ok (.goto 72, 3) := by decide +kernel
theorem kd_M_others_249 : decode b_M_others 249 = .ok (.iload_n 1, 1) := by decide +kernel
theorem kd_M_others_250 : decode b_M_others 250 = .ok (.bipush 19, 2) := by decide +kernel
theorem kd_M_others_252 : decode b_M_others 252 = .ok (.if_icmp .eq 9, 3) := by decide +kernel
theorem kd_M_others_255 : decode b_M_others 255 = .ok (.iload_n 1, 1) := by decide +kernel
theorem kd_M_others_256 : decode b_M_others 256 = .ok (.bipush 20, 2) := by decide +kernel
theorem kd_M_others_258 : decode b_M_others 258 = .ok (.if_icmp .ne 24, 3) := by decide +kernel
theorem kd_M_others_261 : decode b_M_others 261 = .ok (.aload_n 0, 1) := by decide +kernel
theorem kd_M_others_262 : decode b_M_others 262 = .ok (.iload_n 3, 1) := by decide +kernel
theorem kd_M_others_263 : decode b_M_others 263 = .ok (.lload 6, 2) := by decide +kernel
theorem kd_M_others_265 : decode b_M_others 265 = .ok (.iload_n 1, 1) := by decide +kernel
theorem kd_M_others_266 : decode b_M_others 266 = .ok (.bipush 20, 2) := by decide +kernel
theorem kd_M_others_268 : decode b_M_others 268 = .ok (.if_icmp .ne 7, 3) := by decide +kernel
theorem kd_M_others_271 : decode b_M_others 271 = .ok (.iconst 1, 1) := by decide +kernel
theorem kd_M_others_272 : decode b_M_others 272 = .ok (.goto 4, 3) := by decide +kernel
theorem kd_M_others_275 : decode b_M_others 275 = .ok (.iconst 0, 1) := by decide +kernel
theorem kd_M_others_276 : decode b_M_others 276 = .ok (.invokevirtual 232, 3) := by decide +kernel
theorem kd_M_others_279 : decode b_M_others 279 = .ok (.goto 39, 3) := by decide +kernel
theorem kd_M_others_282 : decode b_M_others 282 = .ok (.iload_n 1, 1) := by decide +kernel
theorem kd_M_others_283 : decode b_M_others 283 = .ok (.bipush 26, 2) := by decide +kernel
theorem kd_M_others_285 : decode b_M_others 285 = .ok (.if_icmp .ne 20, 3) := by decide +kernel
theorem kd_M_others_288 : decode b_M_others 288 = .ok (.aload_n 0, 1) := by decide +kernel
theorem kd_M_others_289 : decode b_M_others 289 = .ok (.getfield 64, 3) := by decide +kernel
theorem kd_M_others_292 : decode b_M_others 292 = .ok (.ifCond .ne 13, 3) := by decide +kernel
theorem kd_M_others_295 : decode b_M_others 295 = .ok (.aload_n 0, 1) := by decide +kernel
theorem kd_M_others_296 : decode b_M_others 296 = .ok (.lload 6, 2) := by decide +kernel
theorem kd_M_others_298 : decode b_M_others 298 = .ok (.l2i, 1) := by decide +kernel
theorem kd_M_others_299 : decode b_M_others 299 = .ok (.invokevirtual 215, 3) := by decide +kernel
theorem kd_M_others_302 : decode b_M_others 302 = .ok (.goto 16, 3) := by decide +kernel
theorem kd_M_others_305 : decode b_M_others 305 = .ok (.iload_n 1, 1) := by decide +kernel
theorem kd_M_others_306 : decode b_M_others 306 = .ok (.bipush 29, 2) := by decide +kernel
theorem kd_M_others_308 : decode b_M_others 308 = .ok (.if_icmp .ne 10, 3) := by decide +kernel
theorem kd_M_others_311 : decode b_M_others 311 = .ok (.aload_n 0, 1) := by decide +kernel
theorem kd_M_others_312 : decode b_M_others 312 = .ok (.iload_n 3, 1) := by decide +kernel
theorem kd_M_others_313 : decode b_M_others 313 = .ok (.lload 6, 2) := by decide +kernel
theorem kd_M_others_315 : decode b_M_others 315 = .ok (.invokevirtual 236, 3) := by decide +kernel
theorem kd_M_others_318 : decode b_M_others 318 = .ok (.return_, 1) := by decide +kernel
noncomputable def f_M_others_128 (s0 : ZS) (t0 : Int32) : Option (ZS) :=
  zs_nm (zs_up s0 0 2 t0) fun s4 =>
  some s4
noncomputable def f_M_others_124 (s0 : ZS)  : Option (ZS) :=
  f_M_others_128 s0 ((s0 0 2))
noncomputable def f_M_others_104 (s0 : ZS) (l1 : Int32) (l6 : Int32) (t0 : Int32) (t1 : Int32) : Option (ZS) :=
  if t1 < 0 ∨ 8 ≤ t1.toNatClampNeg then none else
  zs_nm (zs_up s0 3 t1.toNatClampNeg t0) fun s3 =>
  if l1 = 12 then
    f_M_others_124 s3
  else
    if (s3 0 15) = 0 then
      f_M_others_128 s3 l6
    else
      f_M_others_124 s3
noncomputable def f_M_others_82 (s0 : ZS) (l1 : Int32) (l3 : Int32) (l6 : Int32) : Option (ZS) :=
  if l1 = 12 then
    f_M_others_104 s0 l1 l6 l6 l3
  else
    if l3 < 0 ∨ 8 ≤ l3.toNatClampNeg then none else
    f_M_others_104 s0 l1 l6 ((s0 3 l3.toNatClampNeg)) l3
noncomputable def f_M_others_48 (s0 : ZS) (l1 : Int32) (l3 : Int32) : Option (ZS) :=
  if (s0 0 15) = 0 then
    zs_nm (s0 0 21) fun v2 =>
    if l1 = 23 then
      (f_M_push s0 2 (((s0 0 2).toInt64) &&& 4294967295)).bind fun s5 =>
      f_M_others_82 s5 l1 l3 v2
    else
      f_M_others_82 s0 l1 l3 v2
  else
    some s0
noncomputable def f_M_others_276 (s0 : ZS) (t0 : Int32) (t1 : Int64) (t2 : Int32) : Option (ZS) :=
  (f_M_divides s0 t2 t1 t0).bind fun s7 =>
  some s7
noncomputable def f_M_others_261 (s0 : ZS) (l1 : Int32) (l3 : Int32) (l6 : Int64) : Option (ZS) :=
  if l1 = 20 then
    f_M_others_276 s0 1 l6 l3
  else
    f_M_others_276 s0 0 l6 l3
noncomputable def f_M_others_305 (s0 : ZS) (l1 : Int32) (l3 : Int32) (l6 : Int64) : Option (ZS) :=
  if l1 = 29 then
    (f_M_checks s0 l3 l6).bind fun s8 =>
    some s8
  else
    some s0
noncomputable def f_M_others_249 (s0 : ZS) (l1 : Int32) (l3 : Int32) (l6 : Int64) : Option (ZS) :=
  if l1 = 19 then
    f_M_others_261 s0 l1 l3 l6
  else
    if l1 = 20 then
      f_M_others_261 s0 l1 l3 l6
    else
      if l1 = 26 then
        if (s0 0 15) = 0 then
          (f_M_setStatus s0 (l6.toInt32)).bind fun s9 =>
          some s9
        else
          f_M_others_305 s0 l1 l3 l6
      else
        f_M_others_305 s0 l1 l3 l6
noncomputable def f_M_others_201 (s0 : ZS) (l1 : Int32) (l3 : Int32) (l6 : Int64) : Option (ZS) :=
  if l1 = 18 then
    if (s0 0 15) = 0 then
      if l3 < 0 ∨ 8 ≤ l3.toNatClampNeg then none else
      (f_M_cut s0 ((s0 2 l3.toNatClampNeg).toInt64) 1).bind fun p10 =>
      zs_nm (p10.1 * l6) fun v11 =>
      (f_M_tells p10.2 v11 2).bind fun s12 =>
      if l3 < 0 ∨ 8 ≤ l3.toNatClampNeg then none else
      zs_nm (zs_up s12 2 l3.toNatClampNeg (v11.toInt32)) fun s13 =>
      some s13
    else
      f_M_others_249 s0 l1 l3 l6
  else
    f_M_others_249 s0 l1 l3 l6
noncomputable def f_M_others_170 (s0 : ZS) (l1 : Int32) (l2 : Int32) (l3 : Int32) (l6 : Int64) : Option (ZS) :=
  if l1 = 11 then
    if (s0 0 15) = 0 then
      if l3 < 0 ∨ 8 ≤ l3.toNatClampNeg then none else
      (f_M_signed s0 l6 l2).bind fun p14 =>
      if l3 < 0 ∨ 8 ≤ l3.toNatClampNeg then none else
      zs_nm (zs_up p14.2 3 l3.toNatClampNeg ((s0 3 l3.toNatClampNeg) + p14.1)) fun s15 =>
      some s15
    else
      f_M_others_201 s0 l1 l3 l6
  else
    f_M_others_201 s0 l1 l3 l6
noncomputable def f_M_others (s0 : ZS) (x1 : Int32) (x2 : Int32) (x3 : Int32) (x4 : Int32) (x5 : Int32) : Option (ZS) :=
  (f_M_locate s0 x4 x5 x2).bind fun s1 =>
  if x1 = 27 then
    (f_M_packed s1 ).bind fun p18 =>
    (f_M_put p18.2 x4 x5 1 (p18.1.toInt64)).bind fun s19 =>
    some s19
  else
    if x1 = 12 then
      f_M_others_48 s1 x1 x3
    else
      if x1 = 22 then
        f_M_others_48 s1 x1 x3
      else
        if x1 = 23 then
          f_M_others_48 s1 x1 x3
        else
          (f_M_operand s1 x4 x5 x2).bind fun p6 =>
          if x1 = 2 then
            if (p6.2 0 15) = 0 then
              (f_M_signed p6.2 p6.1 x2).bind fun p16 =>
              if x3 < 0 ∨ 8 ≤ x3.toNatClampNeg then none else
              zs_nm (zs_up p16.2 3 x3.toNatClampNeg p16.1) fun s17 =>
              some s17
            else
              f_M_others_170 p6.2 x1 x2 x3 p6.1
          else
            f_M_others_170 p6.2 x1 x2 x3 p6.1
theorem j_M_others_128 {P : ZP} {E : ZE} {A : Nat → Prop} (X : ZX E (zmV P) A "FrameMachineModel" b_M_others 10 none 5 121) (s0 : ZS) (t0 : Int32) : ZJ E (zmV P) A 10 (zFv E (zmV P) A) 128 [] [.int t0, .ref (P.1 0)] s0 (f_M_others_128 s0 t0) := by
  unfold f_M_others_128
  refine pf_M_103 131 X kd_M_others_128 rfl ?_
  refine zj_nms (fun s4 => ?_)
  exact zj_vret X kd_M_others_131
theorem j_M_others_124 {P : ZP} {E : ZE} {A : Nat → Prop} (X : ZX E (zmV P) A "FrameMachineModel" b_M_others 10 none 5 121) (s0 : ZS)  : ZJ E (zmV P) A 10 (zFv E (zmV P) A) 124 [(0, .ref (P.1 0))] [.ref (P.1 0)] s0 (f_M_others_124 s0) := by
  unfold f_M_others_124
  refine zj_aload_n 125 0 X kd_M_others_124 rfl rfl rfl ?_
  refine gf_M_103 128 X kd_M_others_125 rfl ?_
  refine zj_loc [] (L2 := []) rfl ?_
  exact j_M_others_128 X s0 ((s0 0 2))
theorem j_M_others_104 {P : ZP} {E : ZE} {A : Nat → Prop} (X : ZX E (zmV P) A "FrameMachineModel" b_M_others 10 none 5 121) (s0 : ZS) (l1 : Int32) (l6 : Int32) (t0 : Int32) (t1 : Int32) : ZJ E (zmV P) A 10 (zFv E (zmV P) A) 104 [(0, .ref (P.1 0)), (1, .int l1), (6, .int l6)] [.int t0, .int t1, .ref (P.1 3)] s0 (f_M_others_104 s0 l1 l6 t0 t1) := by
  unfold f_M_others_104
  refine zj_ng (fun hg => ?_)
  refine as_M_3 105 X kd_M_others_104 hg rfl ?_
  refine zj_nms (fun s3 => ?_)
  refine zj_aload_n 106 0 X kd_M_others_105 rfl rfl rfl ?_
  refine zj_iload_n 107 1 X kd_M_others_106 rfl rfl rfl ?_
  refine zj_bipush 109 12 X kd_M_others_107 kb_12 rfl ?_
  refine zj_icmp_eq 124 112 X kd_M_others_109 rfl rfl (fun _ => ?_) (fun _ => ?_)
  · refine zj_loc [0] (L2 := [(0, .ref (P.1 0))]) rfl ?_
    exact j_M_others_124 X s3
  · refine zj_aload_n 113 0 X kd_M_others_112 rfl rfl rfl ?_
    refine gf_M_64 116 X kd_M_others_113 rfl ?_
    refine zj_if_ne 124 119 X kd_M_others_116 rfl rfl (fun _ => ?_) (fun _ => ?_)
    · refine zj_iload 121 2 X kd_M_others_119 rfl rfl ?_
      refine zj_goto 128 X kd_M_others_121 rfl ?_
      refine zj_loc [] (L2 := []) rfl ?_
      exact j_M_others_128 X s3 l6
    · refine zj_loc [0] (L2 := [(0, .ref (P.1 0))]) rfl ?_
      exact j_M_others_124 X s3
theorem j_M_others_82 {P : ZP} {E : ZE} {A : Nat → Prop} (X : ZX E (zmV P) A "FrameMachineModel" b_M_others 10 none 5 121) (s0 : ZS) (l1 : Int32) (l3 : Int32) (l6 : Int32) : ZJ E (zmV P) A 10 (zFv E (zmV P) A) 82 [(0, .ref (P.1 0)), (1, .int l1), (3, .int l3), (6, .int l6)] [] s0 (f_M_others_82 s0 l1 l3 l6) := by
  unfold f_M_others_82
  refine zj_aload_n 83 0 X kd_M_others_82 rfl rfl rfl ?_
  refine gf_M_16 86 X kd_M_others_83 rfl ?_
  refine zj_iload_n 87 2 X kd_M_others_86 rfl rfl rfl ?_
  refine zj_iload_n 88 1 X kd_M_others_87 rfl rfl rfl ?_
  refine zj_bipush 90 12 X kd_M_others_88 kb_12 rfl ?_
  refine zj_icmp_ne 98 93 X kd_M_others_90 rfl rfl (fun _ => ?_) (fun _ => ?_)
  · refine zj_iload 95 3 X kd_M_others_93 rfl rfl ?_
    refine zj_goto 104 X kd_M_others_95 rfl ?_
    refine zj_loc [0, 1, 3] (L2 := [(0, .ref (P.1 0)), (1, .int l1), (6, .int l6)]) rfl ?_
    exact j_M_others_104 X s0 l1 l6 l6 l3
  · refine zj_aload_n 99 0 X kd_M_others_98 rfl rfl rfl ?_
    refine gf_M_16 102 X kd_M_others_99 rfl ?_
    refine zj_iload_n 103 2 X kd_M_others_102 rfl rfl rfl ?_
    refine zj_ng (fun hg => ?_)
    refine al_M_3 104 X kd_M_others_103 hg rfl ?_
    refine zj_loc [0, 1, 3] (L2 := [(0, .ref (P.1 0)), (1, .int l1), (6, .int l6)]) rfl ?_
    exact j_M_others_104 X s0 l1 l6 ((s0 3 l3.toNatClampNeg)) l3
theorem j_M_others_48 {P : ZP} {E : ZE} {A : Nat → Prop} (X : ZX E (zmV P) A "FrameMachineModel" b_M_others 10 none 5 121) (s0 : ZS) (l1 : Int32) (l3 : Int32) : ZJ E (zmV P) A 10 (zFv E (zmV P) A) 48 [(0, .ref (P.1 0)), (1, .int l1), (3, .int l3)] [] s0 (f_M_others_48 s0 l1 l3) := by
  unfold f_M_others_48
  refine zj_aload_n 49 0 X kd_M_others_48 rfl rfl rfl ?_
  refine gf_M_64 52 X kd_M_others_49 rfl ?_
  refine zj_if_eq 56 55 X kd_M_others_52 rfl rfl (fun _ => ?_) (fun _ => ?_)
  · refine zj_aload_n 57 0 X kd_M_others_56 rfl rfl rfl ?_
    refine gf_M_151 60 X kd_M_others_57 rfl ?_
    refine zj_nmi (fun v2 => ?_)
    refine zj_istore 62 [(6, .int v2), (0, .ref (P.1 0)), (1, .int l1), (3, .int l3)] X kd_M_others_60 (Nat.le_of_ble_eq_true rfl) rfl rfl ?_
    refine zj_iload_n 63 2 X kd_M_others_62 rfl rfl rfl ?_
    refine zj_bipush 65 23 X kd_M_others_63 kb_23 rfl ?_
    refine zj_icmp_ne 82 68 X kd_M_others_65 rfl rfl (fun _ => ?_) (fun _ => ?_)
    · refine zj_aload_n 69 1 X kd_M_others_68 rfl rfl rfl ?_
      refine zj_iconst 70 2 X kd_M_others_69 ki_2 rfl ?_
      refine zj_aload_n 71 1 X kd_M_others_70 rfl rfl rfl ?_
      refine gf_M_103 74 X kd_M_others_71 rfl ?_
      refine zj_i2l 75 X kd_M_others_74 rfl ?_
      refine zj_ldc2 78 4294967295 X kd_M_others_75 kw_911 rfl ?_
      refine zj_land 79 X kd_M_others_78 rfl ?_
      refine mc_M_218 82 X kd_M_others_79 (Nat.le_of_ble_eq_true rfl) (Nat.le_of_ble_eq_true rfl) (Nat.le_of_ble_eq_true rfl) rfl (fun s5 => ?_)
      refine zj_loc [1, 2, 3, 0] (L2 := [(0, .ref (P.1 0)), (1, .int l1), (3, .int l3), (6, .int v2)]) rfl ?_
      exact j_M_others_82 X s5 l1 l3 v2
    · refine zj_loc [1, 2, 3, 0] (L2 := [(0, .ref (P.1 0)), (1, .int l1), (3, .int l3), (6, .int v2)]) rfl ?_
      exact j_M_others_82 X s0 l1 l3 v2
  · exact zj_vret X kd_M_others_55
theorem j_M_others_276 {P : ZP} {E : ZE} {A : Nat → Prop} (X : ZX E (zmV P) A "FrameMachineModel" b_M_others 10 none 5 121) (s0 : ZS) (t0 : Int32) (t1 : Int64) (t2 : Int32) : ZJ E (zmV P) A 10 (zFv E (zmV P) A) 276 [] [.int t0, .long t1, .int t2, .ref (P.1 0)] s0 (f_M_others_276 s0 t0 t1 t2) := by
  unfold f_M_others_276
  refine mc_M_232 279 X kd_M_others_276 (Nat.le_of_ble_eq_true rfl) (Nat.le_of_ble_eq_true rfl) (Nat.le_of_ble_eq_true rfl) rfl (fun s7 => ?_)
  refine zj_goto 318 X kd_M_others_279 rfl ?_
  exact zj_vret X kd_M_others_318
theorem j_M_others_261 {P : ZP} {E : ZE} {A : Nat → Prop} (X : ZX E (zmV P) A "FrameMachineModel" b_M_others 10 none 5 121) (s0 : ZS) (l1 : Int32) (l3 : Int32) (l6 : Int64) : ZJ E (zmV P) A 10 (zFv E (zmV P) A) 261 [(0, .ref (P.1 0)), (1, .int l1), (3, .int l3), (6, .long l6)] [] s0 (f_M_others_261 s0 l1 l3 l6) := by
  unfold f_M_others_261
  refine zj_aload_n 262 0 X kd_M_others_261 rfl rfl rfl ?_
  refine zj_iload_n 263 2 X kd_M_others_262 rfl rfl rfl ?_
  refine zj_lload 265 3 X kd_M_others_263 rfl rfl ?_
  refine zj_iload_n 266 1 X kd_M_others_265 rfl rfl rfl ?_
  refine zj_bipush 268 20 X kd_M_others_266 kb_20 rfl ?_
  refine zj_icmp_ne 275 271 X kd_M_others_268 rfl rfl (fun _ => ?_) (fun _ => ?_)
  · refine zj_iconst 272 1 X kd_M_others_271 ki_1 rfl ?_
    refine zj_goto 276 X kd_M_others_272 rfl ?_
    refine zj_loc [] (L2 := []) rfl ?_
    exact j_M_others_276 X s0 1 l6 l3
  · refine zj_iconst 276 0 X kd_M_others_275 ki_0 rfl ?_
    refine zj_loc [] (L2 := []) rfl ?_
    exact j_M_others_276 X s0 0 l6 l3
theorem j_M_others_305 {P : ZP} {E : ZE} {A : Nat → Prop} (X : ZX E (zmV P) A "FrameMachineModel" b_M_others 10 none 5 121) (s0 : ZS) (l1 : Int32) (l3 : Int32) (l6 : Int64) : ZJ E (zmV P) A 10 (zFv E (zmV P) A) 305 [(0, .ref (P.1 0)), (1, .int l1), (3, .int l3), (6, .long l6)] [] s0 (f_M_others_305 s0 l1 l3 l6) := by
  unfold f_M_others_305
  refine zj_iload_n 306 1 X kd_M_others_305 rfl rfl rfl ?_
  refine zj_bipush 308 29 X kd_M_others_306 kb_29 rfl ?_
  refine zj_icmp_ne 318 311 X kd_M_others_308 rfl rfl (fun _ => ?_) (fun _ => ?_)
  · refine zj_aload_n 312 0 X kd_M_others_311 rfl rfl rfl ?_
    refine zj_iload_n 313 2 X kd_M_others_312 rfl rfl rfl ?_
    refine zj_lload 315 3 X kd_M_others_313 rfl rfl ?_
    refine mc_M_236 318 X kd_M_others_315 (Nat.le_of_ble_eq_true rfl) (Nat.le_of_ble_eq_true rfl) (Nat.le_of_ble_eq_true rfl) rfl (fun s8 => ?_)
    exact zj_vret X kd_M_others_318
  · exact zj_vret X kd_M_others_318
theorem j_M_others_249 {P : ZP} {E : ZE} {A : Nat → Prop} (X : ZX E (zmV P) A "FrameMachineModel" b_M_others 10 none 5 121) (s0 : ZS) (l1 : Int32) (l3 : Int32) (l6 : Int64) : ZJ E (zmV P) A 10 (zFv E (zmV P) A) 249 [(0, .ref (P.1 0)), (1, .int l1), (3, .int l3), (6, .long l6)] [] s0 (f_M_others_249 s0 l1 l3 l6) := by
  unfold f_M_others_249
  refine zj_iload_n 250 1 X kd_M_others_249 rfl rfl rfl ?_
  refine zj_bipush 252 19 X kd_M_others_250 kb_19 rfl ?_
  refine zj_icmp_eq 261 255 X kd_M_others_252 rfl rfl (fun _ => ?_) (fun _ => ?_)
  · exact j_M_others_261 X s0 l1 l3 l6
  · refine zj_iload_n 256 1 X kd_M_others_255 rfl rfl rfl ?_
    refine zj_bipush 258 20 X kd_M_others_256 kb_20 rfl ?_
    refine zj_icmp_ne 282 261 X kd_M_others_258 rfl rfl (fun _ => ?_) (fun _ => ?_)
    · exact j_M_others_261 X s0 l1 l3 l6
    · refine zj_iload_n 283 1 X kd_M_others_282 rfl rfl rfl ?_
      refine zj_bipush 285 26 X kd_M_others_283 kb_26 rfl ?_
      refine zj_icmp_ne 305 288 X kd_M_others_285 rfl rfl (fun _ => ?_) (fun _ => ?_)
      · refine zj_aload_n 289 0 X kd_M_others_288 rfl rfl rfl ?_
        refine gf_M_64 292 X kd_M_others_289 rfl ?_
        refine zj_if_ne 305 295 X kd_M_others_292 rfl rfl (fun _ => ?_) (fun _ => ?_)
        · refine zj_aload_n 296 0 X kd_M_others_295 rfl rfl rfl ?_
          refine zj_lload 298 3 X kd_M_others_296 rfl rfl ?_
          refine zj_l2i 299 X kd_M_others_298 rfl ?_
          refine mc_M_215 302 X kd_M_others_299 (Nat.le_of_ble_eq_true rfl) (Nat.le_of_ble_eq_true rfl) (Nat.le_of_ble_eq_true rfl) rfl (fun s9 => ?_)
          refine zj_goto 318 X kd_M_others_302 rfl ?_
          exact zj_vret X kd_M_others_318
        · exact j_M_others_305 X s0 l1 l3 l6
      · exact j_M_others_305 X s0 l1 l3 l6
theorem j_M_others_201 {P : ZP} {E : ZE} {A : Nat → Prop} (X : ZX E (zmV P) A "FrameMachineModel" b_M_others 10 none 5 121) (s0 : ZS) (l1 : Int32) (l3 : Int32) (l6 : Int64) : ZJ E (zmV P) A 10 (zFv E (zmV P) A) 201 [(0, .ref (P.1 0)), (1, .int l1), (3, .int l3), (6, .long l6)] [] s0 (f_M_others_201 s0 l1 l3 l6) := by
  unfold f_M_others_201
  refine zj_iload_n 202 1 X kd_M_others_201 rfl rfl rfl ?_
  refine zj_bipush 204 18 X kd_M_others_202 kb_18 rfl ?_
  refine zj_icmp_ne 249 207 X kd_M_others_204 rfl rfl (fun _ => ?_) (fun _ => ?_)
  · refine zj_aload_n 208 0 X kd_M_others_207 rfl rfl rfl ?_
    refine gf_M_64 211 X kd_M_others_208 rfl ?_
    refine zj_if_ne 249 214 X kd_M_others_211 rfl rfl (fun _ => ?_) (fun _ => ?_)
    · refine zj_aload_n 215 0 X kd_M_others_214 rfl rfl rfl ?_
      refine gf_M_13 218 X kd_M_others_215 rfl ?_
      refine zj_iload_n 219 2 X kd_M_others_218 rfl rfl rfl ?_
      refine zj_ng (fun hg => ?_)
      refine al_M_2 220 X kd_M_others_219 hg rfl ?_
      refine zj_i2l 221 X kd_M_others_220 rfl ?_
      refine zj_iconst 222 1 X kd_M_others_221 ki_1 rfl ?_
      refine mc_M_161 225 X kd_M_others_222 (Nat.le_of_ble_eq_true rfl) (Nat.le_of_ble_eq_true rfl) (Nat.le_of_ble_eq_true rfl) rfl (fun p10 => ?_)
      refine zj_lload 227 3 X kd_M_others_225 rfl rfl ?_
      refine zj_lmul 228 X kd_M_others_227 rfl ?_
      refine zj_nml (fun v11 => ?_)
      refine zj_lstore 230 [(8, .long v11), (0, .ref (P.1 0)), (1, .int l1), (3, .int l3), (6, .long l6)] X kd_M_others_228 (Nat.le_of_ble_eq_true rfl) rfl rfl ?_
      refine zj_aload_n 231 1 X kd_M_others_230 rfl rfl rfl ?_
      refine zj_lload 233 0 X kd_M_others_231 rfl rfl ?_
      refine zj_iconst 234 2 X kd_M_others_233 ki_2 rfl ?_
      refine mc_M_170 237 X kd_M_others_234 (Nat.le_of_ble_eq_true rfl) (Nat.le_of_ble_eq_true rfl) (Nat.le_of_ble_eq_true rfl) rfl (fun s12 => ?_)
      refine zj_aload_n 238 1 X kd_M_others_237 rfl rfl rfl ?_
      refine gf_M_13 241 X kd_M_others_238 rfl ?_
      refine zj_iload_n 242 3 X kd_M_others_241 rfl rfl rfl ?_
      refine zj_lload 244 0 X kd_M_others_242 rfl rfl ?_
      refine zj_l2i 245 X kd_M_others_244 rfl ?_
      refine zj_ng (fun hg => ?_)
      refine as_M_2 246 X kd_M_others_245 hg rfl ?_
      refine zj_nms (fun s13 => ?_)
      refine zj_goto 318 X kd_M_others_246 rfl ?_
      exact zj_vret X kd_M_others_318
    · exact j_M_others_249 X s0 l1 l3 l6
  · exact j_M_others_249 X s0 l1 l3 l6
theorem j_M_others_170 {P : ZP} {E : ZE} {A : Nat → Prop} (X : ZX E (zmV P) A "FrameMachineModel" b_M_others 10 none 5 121) (s0 : ZS) (l1 : Int32) (l2 : Int32) (l3 : Int32) (l6 : Int64) : ZJ E (zmV P) A 10 (zFv E (zmV P) A) 170 [(0, .ref (P.1 0)), (1, .int l1), (2, .int l2), (3, .int l3), (6, .long l6)] [] s0 (f_M_others_170 s0 l1 l2 l3 l6) := by
  unfold f_M_others_170
  refine zj_iload_n 171 1 X kd_M_others_170 rfl rfl rfl ?_
  refine zj_bipush 173 11 X kd_M_others_171 kb_11 rfl ?_
  refine zj_icmp_ne 201 176 X kd_M_others_173 rfl rfl (fun _ => ?_) (fun _ => ?_)
  · refine zj_aload_n 177 0 X kd_M_others_176 rfl rfl rfl ?_
    refine gf_M_64 180 X kd_M_others_177 rfl ?_
    refine zj_if_ne 201 183 X kd_M_others_180 rfl rfl (fun _ => ?_) (fun _ => ?_)
    · refine zj_aload_n 184 0 X kd_M_others_183 rfl rfl rfl ?_
      refine gf_M_16 187 X kd_M_others_184 rfl ?_
      refine zj_iload_n 188 3 X kd_M_others_187 rfl rfl rfl ?_
      refine zj_dup2 189 X kd_M_others_188 rfl rfl rfl ?_
      refine zj_ng (fun hg => ?_)
      refine al_M_3 190 X kd_M_others_189 hg rfl ?_
      refine zj_lload 192 4 X kd_M_others_190 rfl rfl ?_
      refine zj_iload_n 193 2 X kd_M_others_192 rfl rfl rfl ?_
      refine mc_M_154 196 X kd_M_others_193 (Nat.le_of_ble_eq_true rfl) (Nat.le_of_ble_eq_true rfl) (Nat.le_of_ble_eq_true rfl) rfl (fun p14 => ?_)
      refine zj_iadd 197 X kd_M_others_196 rfl ?_
      refine zj_ng (fun hg => ?_)
      refine as_M_3 198 X kd_M_others_197 hg rfl ?_
      refine zj_nms (fun s15 => ?_)
      refine zj_goto 318 X kd_M_others_198 rfl ?_
      exact zj_vret X kd_M_others_318
    · refine zj_loc [0, 1, 3, 4] (L2 := [(0, .ref (P.1 0)), (1, .int l1), (3, .int l3), (6, .long l6)]) rfl ?_
      exact j_M_others_201 X s0 l1 l3 l6
  · refine zj_loc [0, 1, 3, 4] (L2 := [(0, .ref (P.1 0)), (1, .int l1), (3, .int l3), (6, .long l6)]) rfl ?_
    exact j_M_others_201 X s0 l1 l3 l6
theorem j_M_others {P : ZP} {E : ZE} {A : Nat → Prop} (X : ZX E (zmV P) A "FrameMachineModel" b_M_others 10 none 5 121) (s0 : ZS) (x1 : Int32) (x2 : Int32) (x3 : Int32) (x4 : Int32) (x5 : Int32) : ZJ E (zmV P) A 10 (zFv E (zmV P) A) 0 [(0, .ref (P.1 0)), (1, .int x1), (2, .int x2), (3, .int x3), (4, .int x4), (5, .int x5)] [] s0 (f_M_others s0 x1 x2 x3 x4 x5) := by
  unfold f_M_others
  refine zj_aload_n 1 0 X kd_M_others_0 rfl rfl rfl ?_
  refine zj_iload 3 4 X kd_M_others_1 rfl rfl ?_
  refine zj_iload 5 5 X kd_M_others_3 rfl rfl ?_
  refine zj_iload_n 6 2 X kd_M_others_5 rfl rfl rfl ?_
  refine mc_M_192 9 X kd_M_others_6 (Nat.le_of_ble_eq_true rfl) (Nat.le_of_ble_eq_true rfl) (Nat.le_of_ble_eq_true rfl) rfl (fun s1 => ?_)
  refine zj_iload_n 10 1 X kd_M_others_9 rfl rfl rfl ?_
  refine zj_bipush 12 27 X kd_M_others_10 kb_27 rfl ?_
  refine zj_icmp_ne 30 15 X kd_M_others_12 rfl rfl (fun _ => ?_) (fun _ => ?_)
  · refine zj_aload_n 16 0 X kd_M_others_15 rfl rfl rfl ?_
    refine zj_iload 18 4 X kd_M_others_16 rfl rfl ?_
    refine zj_iload 20 5 X kd_M_others_18 rfl rfl ?_
    refine zj_iconst 21 1 X kd_M_others_20 ki_1 rfl ?_
    refine zj_aload_n 22 0 X kd_M_others_21 rfl rfl rfl ?_
    refine mc_M_204 25 X kd_M_others_22 (Nat.le_of_ble_eq_true rfl) (Nat.le_of_ble_eq_true rfl) (Nat.le_of_ble_eq_true rfl) rfl (fun p18 => ?_)
    refine zj_i2l 26 X kd_M_others_25 rfl ?_
    refine mc_M_196 29 X kd_M_others_26 (Nat.le_of_ble_eq_true rfl) (Nat.le_of_ble_eq_true rfl) (Nat.le_of_ble_eq_true rfl) rfl (fun s19 => ?_)
    exact zj_vret X kd_M_others_29
  · refine zj_iload_n 31 1 X kd_M_others_30 rfl rfl rfl ?_
    refine zj_bipush 33 12 X kd_M_others_31 kb_12 rfl ?_
    refine zj_icmp_eq 48 36 X kd_M_others_33 rfl rfl (fun _ => ?_) (fun _ => ?_)
    · refine zj_loc [0, 1, 3] (L2 := [(0, .ref (P.1 0)), (1, .int x1), (3, .int x3)]) rfl ?_
      exact j_M_others_48 X s1 x1 x3
    · refine zj_iload_n 37 1 X kd_M_others_36 rfl rfl rfl ?_
      refine zj_bipush 39 22 X kd_M_others_37 kb_22 rfl ?_
      refine zj_icmp_eq 48 42 X kd_M_others_39 rfl rfl (fun _ => ?_) (fun _ => ?_)
      · refine zj_loc [0, 1, 3] (L2 := [(0, .ref (P.1 0)), (1, .int x1), (3, .int x3)]) rfl ?_
        exact j_M_others_48 X s1 x1 x3
      · refine zj_iload_n 43 1 X kd_M_others_42 rfl rfl rfl ?_
        refine zj_bipush 45 23 X kd_M_others_43 kb_23 rfl ?_
        refine zj_icmp_ne 132 48 X kd_M_others_45 rfl rfl (fun _ => ?_) (fun _ => ?_)
        · refine zj_loc [0, 1, 3] (L2 := [(0, .ref (P.1 0)), (1, .int x1), (3, .int x3)]) rfl ?_
          exact j_M_others_48 X s1 x1 x3
        · refine zj_aload_n 133 0 X kd_M_others_132 rfl rfl rfl ?_
          refine zj_iload 135 4 X kd_M_others_133 rfl rfl ?_
          refine zj_iload 137 5 X kd_M_others_135 rfl rfl ?_
          refine zj_iload_n 138 2 X kd_M_others_137 rfl rfl rfl ?_
          refine mc_M_200 141 X kd_M_others_138 (Nat.le_of_ble_eq_true rfl) (Nat.le_of_ble_eq_true rfl) (Nat.le_of_ble_eq_true rfl) rfl (fun p6 => ?_)
          refine zj_lstore 143 [(6, .long p6.1), (0, .ref (P.1 0)), (1, .int x1), (2, .int x2), (3, .int x3), (4, .int x4), (5, .int x5)] X kd_M_others_141 (Nat.le_of_ble_eq_true rfl) rfl rfl ?_
          refine zj_iload_n 144 2 X kd_M_others_143 rfl rfl rfl ?_
          refine zj_iconst 145 2 X kd_M_others_144 ki_2 rfl ?_
          refine zj_icmp_ne 170 148 X kd_M_others_145 rfl rfl (fun _ => ?_) (fun _ => ?_)
          · refine zj_aload_n 149 1 X kd_M_others_148 rfl rfl rfl ?_
            refine gf_M_64 152 X kd_M_others_149 rfl ?_
            refine zj_if_ne 170 155 X kd_M_others_152 rfl rfl (fun _ => ?_) (fun _ => ?_)
            · refine zj_aload_n 156 1 X kd_M_others_155 rfl rfl rfl ?_
              refine gf_M_16 159 X kd_M_others_156 rfl ?_
              refine zj_iload_n 160 4 X kd_M_others_159 rfl rfl rfl ?_
              refine zj_lload 162 0 X kd_M_others_160 rfl rfl ?_
              refine zj_iload_n 163 3 X kd_M_others_162 rfl rfl rfl ?_
              refine mc_M_154 166 X kd_M_others_163 (Nat.le_of_ble_eq_true rfl) (Nat.le_of_ble_eq_true rfl) (Nat.le_of_ble_eq_true rfl) rfl (fun p16 => ?_)
              refine zj_ng (fun hg => ?_)
              refine as_M_3 167 X kd_M_others_166 hg rfl ?_
              refine zj_nms (fun s17 => ?_)
              refine zj_goto 318 X kd_M_others_167 rfl ?_
              exact zj_vret X kd_M_others_318
            · refine zj_loc [1, 2, 3, 4, 0] (L2 := [(0, .ref (P.1 0)), (1, .int x1), (2, .int x2), (3, .int x3), (6, .long p6.1)]) rfl ?_
              exact j_M_others_170 X p6.2 x1 x2 x3 p6.1
          · refine zj_loc [1, 2, 3, 4, 0] (L2 := [(0, .ref (P.1 0)), (1, .int x1), (2, .int x2), (3, .int x3), (6, .long p6.1)]) rfl ?_
            exact j_M_others_170 X p6.2 x1 x2 x3 p6.1
theorem c_M_others {l : Launch} {P : ZP} (hV : ZVok (zmV P)) (s0 : ZS) (x1 : Int32) (x2 : Int32) (x3 : Int32) (x4 : Int32) (x5 : Int32) {z : ZS} (h : f_M_others s0 x1 x2 x3 x4 x5 = some z) : zMv l y_M_others b_M_others 10 none 5 121 (zmV P) s0 [.ref (P.1 0), .int x1, .int x2, .int x3, .int x4, .int x5] z :=
  zMv_of (by decide +kernel) rfl rfl (Nat.le_of_ble_eq_true rfl) hV (fun _ X => j_M_others X s0 x1 x2 x3 x4 x5) h
theorem kc_M_249 : zCV "FrameMachineModel" 249 y_M_others b_M_others 10 none 5 := ⟨⟨kw_1021, kw_1023, ksel_51, kw_11, kw_1024⟩, by decide +kernel, by decide +kernel, by decide +kernel⟩
theorem mc_M_249 {ρ : Type} {E : ZE} {P : ZP} {A : Nat → Prop} {cc : ByteArray} {nL : Nat} {ret : Option FieldType} {fr lo : Nat} {F : ρ → State → Prop} {pc : Nat} {L : List (Nat × Value)} {rest : List Value} {σ : ZS} {x1 : Int32} {x2 : Int32} {x3 : Int32} {x4 : Int32} {x5 : Int32} {K : ZS → Option ρ} (q : Nat) (X : ZX E (zmV P) A "FrameMachineModel" cc nL ret fr lo) (d : decode cc pc = .ok (.invokevirtual 249, 3)) (hfr : 5 + 1 ≤ fr) (hlo : 8 + (10 + 11) + 121 ≤ lo) (hr : (rest.map fun v => v.category).sum ≤ 8) (hq : pc + 3 = q) (kk : ∀ p : ZS, ZJ E (zmV P) A nL F q L (rest) p (K p)) : ZJ E (zmV P) A nL F pc L (.int x5 :: .int x4 :: .int x3 :: .int x2 :: .int x1 :: .ref (P.1 0) :: rest) σ ((f_M_others σ x1 x2 x3 x4 x5).bind K) :=
  zj_cVv q 0 0 (As := [.int x1, .int x2, .int x3, .int x4, .int x5]) (rest := rest) X kc_M_249 hfr hlo (fun p h => c_M_others (zx_v X) σ x1 x2 x3 x4 x5 h) rfl rfl rfl hr d hq kk
