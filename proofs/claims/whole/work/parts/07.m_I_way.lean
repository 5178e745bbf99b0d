-- FrameMachine$Instruction.way()I
theorem kd_I_way_0 : decode b_I_way 0 = .ok (.aload_n 0, 1) := by decide +kernel
theorem kd_I_way_1 : decode b_I_way 1 = .ok (.getfield 24, 3) := by decide +kernel
theorem kd_I_way_4 : decode b_I_way 4 = .ok (.bipush 6, 2) := by decide +kernel
theorem kd_I_way_6 : decode b_I_way 6 = .ok (.if_icmp .ge 8, 3) := by decide +kernel
theorem kd_I_way_9 : decode b_I_way 9 = .ok (.aload_n 0, 1) := by decide +kernel
theorem kd_I_way_10 : decode b_I_way 10 = .ok (.getfield 24, 3) := by decide +kernel
theorem kd_I_way_13 : decode b_I_way 13 = .ok (.ireturn, 1) := by decide +kernel
theorem kd_I_way_14 : decode b_I_way 14 = .ok (.aload_n 0, 1) := by decide +kernel
theorem kd_I_way_15 : decode b_I_way 15 = .ok (.getfield 24, 3) := by decide +kernel
theorem kd_I_way_18 : decode b_I_way 18 = .ok (.bipush 6, 2) := by decide +kernel
theorem kd_I_way_20 : decode b_I_way 20 = .ok (.if_icmp .ne 21, 3) := by decide +kernel
theorem kd_I_way_23 : decode b_I_way 23 = .ok (.aload_n 0, 1) := by decide +kernel
theorem kd_I_way_24 : decode b_I_way 24 = .ok (.getfield 27, 3) := by decide +kernel
theorem kd_I_way_27 : decode b_I_way 27 = .ok (.iconst 4, 1) := by decide +kernel
theorem kd_I_way_28 : decode b_I_way 28 = .ok (.if_icmp .ge 13, 3) := by decide +kernel
theorem kd_I_way_31 : decode b_I_way 31 = .ok (.bipush 6, 2) := by decide +kernel
theorem kd_I_way_33 : decode b_I_way 33 = .ok (.aload_n 0, 1) := by decide +kernel
theorem kd_I_way_34 : decode b_I_way 34 = .ok (.getfield 27, 3) := by decide +kernel
theorem kd_I_way_37 : decode b_I_way 37 = .ok (.iadd, 1) := by decide +kernel
theorem kd_I_way_38 : decode b_I_way 38 = .ok (.goto 5, 3) := by decide +kernel
theorem kd_I_way_41 : decode b_I_way 41 = .ok (.bipush 10, 2) := by decide +kernel
theorem kd_I_way_43 : decode b_I_way 43 = .ok (.ireturn, 1) := by decide +kernel
noncomputable def f_I_way_41 (s0 : ZS)  : Option (Int32 × ZS) :=
  some (10, s0)
noncomputable def f_I_way (s0 : ZS)  : Option (Int32 × ZS) :=
  if 6 ≤ (s0 0 27) then
    if (s0 0 27) = 6 then
      if 4 ≤ (s0 0 28) then
        f_I_way_41 s0
      else
        some (6 + (s0 0 28), s0)
    else
      f_I_way_41 s0
  else
    some (s0 0 27, s0)
theorem j_I_way_41 {P : ZP} {E : ZE} {A : Nat → Prop} (X : ZX E (zcV P) A "FrameMachine$Instruction" b_I_way 1 (some .int) 0 0) (s0 : ZS)  : ZJ E (zcV P) A 1 (zFi E (zcV P) A) 41 [] [] s0 (f_I_way_41 s0) := by
  unfold f_I_way_41
  refine zj_bipush 43 10 X kd_I_way_41 kb_10 rfl ?_
  exact zj_iret X kd_I_way_43
theorem j_I_way {P : ZP} {E : ZE} {A : Nat → Prop} (X : ZX E (zcV P) A "FrameMachine$Instruction" b_I_way 1 (some .int) 0 0) (s0 : ZS)  : ZJ E (zcV P) A 1 (zFi E (zcV P) A) 0 [(0, .ref (P.1 7))] [] s0 (f_I_way s0) := by
  unfold f_I_way
  refine zj_aload_n 1 0 X kd_I_way_0 rfl rfl rfl ?_
  refine gf_I_24 4 X kd_I_way_1 rfl ?_
  refine zj_bipush 6 6 X kd_I_way_4 kb_6 rfl ?_
  refine zj_icmp_ge 14 9 X kd_I_way_6 rfl rfl (fun _ => ?_) (fun _ => ?_)
  · refine zj_aload_n 15 0 X kd_I_way_14 rfl rfl rfl ?_
    refine gf_I_24 18 X kd_I_way_15 rfl ?_
    refine zj_bipush 20 6 X kd_I_way_18 kb_6 rfl ?_
    refine zj_icmp_ne 41 23 X kd_I_way_20 rfl rfl (fun _ => ?_) (fun _ => ?_)
    · refine zj_aload_n 24 0 X kd_I_way_23 rfl rfl rfl ?_
      refine gf_I_27 27 X kd_I_way_24 rfl ?_
      refine zj_iconst 28 4 X kd_I_way_27 ki_4 rfl ?_
      refine zj_icmp_ge 41 31 X kd_I_way_28 rfl rfl (fun _ => ?_) (fun _ => ?_)
      · refine zj_loc [] (L2 := []) rfl ?_
        exact j_I_way_41 X s0
      · refine zj_bipush 33 6 X kd_I_way_31 kb_6 rfl ?_
        refine zj_aload_n 34 0 X kd_I_way_33 rfl rfl rfl ?_
        refine gf_I_27 37 X kd_I_way_34 rfl ?_
        refine zj_iadd 38 X kd_I_way_37 rfl ?_
        refine zj_goto 43 X kd_I_way_38 rfl ?_
        exact zj_iret X kd_I_way_43
    · refine zj_loc [] (L2 := []) rfl ?_
      exact j_I_way_41 X s0
  · refine zj_aload_n 10 0 X kd_I_way_9 rfl rfl rfl ?_
    refine gf_I_24 13 X kd_I_way_10 rfl ?_
    exact zj_iret X kd_I_way_13
theorem c_I_way {l : Launch} {P : ZP} (hV : ZVok (zcV P)) (s0 : ZS)  {z : Int32 × ZS} (h : f_I_way s0  = some z) : zMi l y_I_way b_I_way 1 (some .int) 0 0 (zcV P) s0 [.ref (P.1 7)] z :=
  zMi_of (by decide +kernel) rfl rfl (Nat.le_of_ble_eq_true rfl) hV (fun _ X => j_I_way X s0 ) h
theorem kc_I_48 : zCV "FrameMachine$Instruction" 48 y_I_way b_I_way 1 (some .int) 0 := ⟨⟨kw_554, kw_555, kw_556, kw_8, kw_557⟩, by decide +kernel, by decide +kernel, by decide +kernel⟩
theorem mc_I_48 {ρ : Type} {E : ZE} {P : ZP} {A : Nat → Prop} {cc : ByteArray} {nL : Nat} {ret : Option FieldType} {fr lo : Nat} {F : ρ → State → Prop} {pc : Nat} {L : List (Nat × Value)} {rest : List Value} {σ : ZS}  {K : Int32 × ZS → Option ρ} (q : Nat) (X : ZX E (zcV P) A "FrameMachine$Instruction" cc nL ret fr lo) (d : decode cc pc = .ok (.invokevirtual 48, 3)) (hfr : 0 + 1 ≤ fr) (hlo : 8 + (1 + 11) + 0 ≤ lo) (hr : (rest.map fun v => v.category).sum ≤ 8) (hq : pc + 3 = q) (kk : ∀ p : Int32 × ZS, ZJ E (zcV P) A nL F q L (.int p.1 :: rest) p.2 (K p)) : ZJ E (zcV P) A nL F pc L (.ref (P.1 7) :: rest) σ ((f_I_way σ ).bind K) :=
  zj_cVi q 7 7 (As := []) (rest := rest) X kc_I_48 hfr hlo (fun p h => c_I_way (zx_v X) σ  h) rfl rfl rfl hr d hq kk
theorem kc_O_23 : zCV "FrameMachine$Operand" 23 y_I_way b_I_way 1 (some .int) 0 := ⟨⟨kw_575, kw_555, kw_556, kw_8, kw_557⟩, by decide +kernel, by decide +kernel, by decide +kernel⟩
theorem mc_O_23 {ρ : Type} {E : ZE} {P : ZP} {A : Nat → Prop} {cc : ByteArray} {nL : Nat} {ret : Option FieldType} {fr lo : Nat} {F : ρ → State → Prop} {pc : Nat} {L : List (Nat × Value)} {rest : List Value} {σ : ZS}  {K : Int32 × ZS → Option ρ} (q : Nat) (X : ZX E (zcV P) A "FrameMachine$Operand" cc nL ret fr lo) (d : decode cc pc = .ok (.invokevirtual 23, 3)) (hfr : 0 + 1 ≤ fr) (hlo : 8 + (1 + 11) + 0 ≤ lo) (hr : (rest.map fun v => v.category).sum ≤ 8) (hq : pc + 3 = q) (kk : ∀ p : Int32 × ZS, ZJ E (zcV P) A nL F q L (.int p.1 :: rest) p.2 (K p)) : ZJ E (zcV P) A nL F pc L (.ref (P.1 7) :: rest) σ ((f_I_way σ ).bind K) :=
  zj_cVi q 7 7 (As := []) (rest := rest) X kc_O_23 hfr hlo (fun p h => c_I_way (zx_v X) σ  h) rfl rfl rfl hr d hq kk
-- FrameMachine$Instruction.isNone()Z
theorem kd_I_isNone_0 : decode b_I_isNone 0 = .ok (.getstatic 38, 3) := by decide +kernel
theorem kd_I_isNone_3 : decode b_I_isNone 3 = .ok (.aload_n 0, 1) := by decide +kernel
theorem kd_I_isNone_4 : decode b_I_isNone 4 = .ok (.getfield 15, 3) := by decide +kernel
theorem kd_I_isNone_7 : decode b_I_isNone 7 = .ok (.bipush 31, 2) := by decide +kernel
theorem kd_I_isNone_9 : decode b_I_isNone 9 = .ok (.iand, 1) := by decide +kernel
theorem kd_I_isNone_10 : decode b_I_isNone 10 = .ok (.iaload, 1) := by decide +kernel
theorem kd_I_isNone_11 : decode b_I_isNone 11 = .ok (.aload_n 0, 1) := by decide +kernel
theorem kd_I_isNone_12 : decode b_I_isNone 12 = .ok (.getfield 18, 3) := by decide +kernel
theorem kd_I_isNone_15 : decode b_I_isNone 15 = .ok (.ishr, 1) := by decide +kernel
theorem kd_I_isNone_16 : decode b_I_isNone 16 = .ok (.iconst 1, 1) := by decide +kernel
theorem kd_I_isNone_17 : decode b_I_isNone 17 = .ok (.iand, 1) := by decide +kernel
theorem kd_I_isNone_18 : decode b_I_isNone 18 = .ok (.ifCond .ne 5, 3) := by decide +kernel
theorem kd_I_isNone_21 : decode b_I_isNone 21 = .ok (.iconst 1, 1) := by decide +kernel
theorem kd_I_isNone_22 : decode b_I_isNone 22 = .ok (.ireturn, 1) := by decide +kernel
theorem kd_I_isNone_23 : decode b_I_isNone 23 = .ok (.aload_n 0, 1) := by decide +kernel
theorem kd_I_isNone_24 : decode b_I_isNone 24 = .ok (.getfield 15, 3) := by decide +kernel
theorem kd_I_isNone_27 : decode b_I_isNone 27 = .ok (.lookupswitch 76 #[(17, 33), (21, 47), (24, 62)], 33) := by decide +kernel
theorem kd_I_isNone_60 : decode b_I_isNone 60 = .ok (.aload_n 0, 1) := by decide +kernel
theorem kd_I_isNone_61 : decode b_I_isNone 61 = .ok (.getfield 24, 3) := by decide +kernel
theorem kd_I_isNone_64 : decode b_I_isNone 64 = .ok (.iconst 5, 1) := by decide +kernel
theorem kd_I_isNone_65 : decode b_I_isNone 65 = .ok (.if_icmp .le 7, 3) := by decide +kernel
theorem kd_I_isNone_68 : decode b_I_isNone 68 = .ok (.iconst 1, 1) := by decide +kernel
theorem kd_I_isNone_69 : decode b_I_isNone 69 = .ok (.goto 4, 3) := by decide +kernel
theorem kd_I_isNone_72 : decode b_I_isNone 72 = .ok (.iconst 0, 1) := by decide +kernel
theorem kd_I_isNone_73 : decode b_I_isNone 73 = .ok (.ireturn, 1) := by decide +kernel
theorem kd_I_isNone_74 : decode b_I_isNone 74 = .ok (.aload_n 0, 1) := by decide +kernel
theorem kd_I_isNone_75 : decode b_I_isNone 75 = .ok (.invokevirtual 41, 3) := by decide +kernel
theorem kd_I_isNone_78 : decode b_I_isNone 78 = .ok (.bipush 15, 2) := by decide +kernel
theorem kd_I_isNone_80 : decode b_I_isNone 80 = .ok (.if_icmp .le 7, 3) := by decide +kernel
theorem kd_I_isNone_83 : decode b_I_isNone 83 = .ok (.iconst 1, 1) := by decide +kernel
theorem kd_I_isNone_84 : decode b_I_isNone 84 = .ok (.goto 4, 3) := by decide +kernel
theorem kd_I_isNone_87 : decode b_I_isNone 87 = .ok (.iconst 0, 1) := by decide +kernel
theorem kd_I_isNone_88 : decode b_I_isNone 88 = .ok (.ireturn, 1) := by decide +kernel
theorem kd_I_isNone_89 : decode b_I_isNone 89 = .ok (.aload_n 0, 1) := by decide +kernel
theorem kd_I_isNone_90 : decode b_I_isNone 90 = .ok (.getfield 27, 3) := by decide +kernel
theorem kd_I_isNone_93 : decode b_I_isNone 93 = .ok (.iconst 4, 1) := by decide +kernel
theorem kd_I_isNone_94 : decode b_I_isNone 94 = .ok (.if_icmp .le 7, 3) := by decide +kernel
theorem kd_I_isNone_97 : decode b_I_isNone 97 = .ok (.iconst 1, 1) := by decide +kernel
theorem kd_I_isNone_98 : decode b_I_isNone 98 = .ok (.goto 4, 3) := by decide +kernel
theorem kd_I_isNone_101 : decode b_I_isNone 101 = .ok (.iconst 0, 1) := by decide +kernel
theorem kd_I_isNone_102 : decode b_I_isNone 102 = .ok (.ireturn, 1) := by decide +kernel
theorem kd_I_isNone_103 : decode b_I_isNone 103 = .ok (.aload_n 0, 1) := by decide +kernel
theorem kd_I_isNone_104 : decode b_I_isNone 104 = .ok (.invokevirtual 34, 3) := by decide +kernel
theorem kd_I_isNone_107 : decode b_I_isNone 107 = .ok (.ifCond .eq 21, 3) := by decide +kernel
theorem kd_I_isNone_110 : decode b_I_isNone 110 = .ok (.aload_n 0, 1) := by decide +kernel
theorem kd_I_isNone_111 : decode b_I_isNone 111 = .ok (.invokevirtual 45, 3) := by decide +kernel
theorem kd_I_isNone_114 : decode b_I_isNone 114 = .ok (.aload_n 0, 1) := by decide +kernel
theorem kd_I_isNone_115 : decode b_I_isNone 115 = .ok (.invokevirtual 48, 3) := by decide +kernel
theorem kd_I_isNone_118 : decode b_I_isNone 118 = .ok (.ishr, 1) := by decide +kernel
theorem kd_I_isNone_119 : decode b_I_isNone 119 = .ok (.iconst 1, 1) := by decide +kernel
theorem kd_I_isNone_120 : decode b_I_isNone 120 = .ok (.iand, 1) := by decide +kernel
theorem kd_I_isNone_121 : decode b_I_isNone 121 = .ok (.ifCond .ne 7, 3) := by decide +kernel
theorem kd_I_isNone_124 : decode b_I_isNone 124 = .ok (.iconst 1, 1) := by decide +kernel
theorem kd_I_isNone_125 : decode b_I_isNone 125 = .ok (.goto 4, 3) := by decide +kernel
theorem kd_I_isNone_128 : decode b_I_isNone 128 = .ok (.iconst 0, 1) := by decide +kernel
theorem kd_I_isNone_129 : decode b_I_isNone 129 = .ok (.ireturn, 1) := by decide +kernel
noncomputable def f_I_isNone (s0 : ZS)  : Option (Int32 × ZS) :=
  zs_nm ((s0 0 24) &&& 31) fun v1 =>
  if v1 < 0 ∨ 32 ≤ v1.toNatClampNeg then none else
  if ((zo_shr (tb_SIZES v1.toNatClampNeg) (s0 0 25)) &&& 1) = 0 then
    some (1, s0)
  else
    zs_nm (s0 0 24) fun v2 =>
    if v2 = 17 then
      if (s0 0 27) ≤ 5 then
        some (0, s0)
      else
        some (1, s0)
    else if v2 = 21 then
      (f_I_condition s0 ).bind fun p3 =>
      if p3.1 ≤ 15 then
        some (0, p3.2)
      else
        some (1, p3.2)
    else if v2 = 24 then
      if (s0 0 28) ≤ 4 then
        some (0, s0)
      else
        some (1, s0)
    else 
      (f_I_hasOperand s0 ).bind fun p4 =>
      if p4.1 = 0 then
        some (0, p4.2)
      else
        (f_I_kind p4.2 ).bind fun p5 =>
        (f_I_way p5.2 ).bind fun p6 =>
        if ((zo_shr p5.1 p6.1) &&& 1) = 0 then
          some (1, p6.2)
        else
          some (0, p6.2)
theorem j_I_isNone {P : ZP} {E : ZE} {A : Nat → Prop} (X : ZX E (zcV P) A "FrameMachine$Instruction" b_I_isNone 1 (some .boolean) 1 21) (s0 : ZS)  : ZJ E (zcV P) A 1 (zFi E (zcV P) A) 0 [(0, .ref (P.1 7))] [] s0 (f_I_isNone s0) := by
  unfold f_I_isNone
  refine gs_I_38 3 X kd_I_isNone_0 rfl ?_
  refine zj_aload_n 4 0 X kd_I_isNone_3 rfl rfl rfl ?_
  refine gf_I_15 7 X kd_I_isNone_4 rfl ?_
  refine zj_bipush 9 31 X kd_I_isNone_7 kb_31 rfl ?_
  refine zj_iand 10 X kd_I_isNone_9 rfl ?_
  refine zj_nmi (fun v1 => ?_)
  refine zj_ng (fun hg => ?_)
  refine at_SIZES 11 X kd_I_isNone_10 hg rfl ?_
  refine zj_aload_n 12 0 X kd_I_isNone_11 rfl rfl rfl ?_
  refine gf_I_18 15 X kd_I_isNone_12 rfl ?_
  refine zj_ishr 16 X kd_I_isNone_15 rfl ?_
  refine zj_iconst 17 1 X kd_I_isNone_16 ki_1 rfl ?_
  refine zj_iand 18 X kd_I_isNone_17 rfl ?_
  refine zj_if_ne 23 21 X kd_I_isNone_18 rfl rfl (fun _ => ?_) (fun _ => ?_)
  · refine zj_iconst 22 1 X kd_I_isNone_21 ki_1 rfl ?_
    exact zj_zret X kd_I_isNone_22 (Or.inr rfl)
  · refine zj_aload_n 24 0 X kd_I_isNone_23 rfl rfl rfl ?_
    refine gf_I_15 27 X kd_I_isNone_24 rfl ?_
    refine zj_nmi (fun v2 => ?_)
    refine zj_lcase 60 X kd_I_isNone_27 rfl rfl rfl (fun _ => ?_) (fun h0 => ?_)
    · refine zj_aload_n 61 0 X kd_I_isNone_60 rfl rfl rfl ?_
      refine gf_I_24 64 X kd_I_isNone_61 rfl ?_
      refine zj_iconst 65 5 X kd_I_isNone_64 ki_5 rfl ?_
      refine zj_icmp_le 72 68 X kd_I_isNone_65 rfl rfl (fun _ => ?_) (fun _ => ?_)
      · refine zj_iconst 73 0 X kd_I_isNone_72 ki_0 rfl ?_
        exact zj_zret X kd_I_isNone_73 (Or.inl rfl)
      · refine zj_iconst 69 1 X kd_I_isNone_68 ki_1 rfl ?_
        refine zj_goto 73 X kd_I_isNone_69 rfl ?_
        exact zj_zret X kd_I_isNone_73 (Or.inr rfl)
    refine zj_lcase 74 X kd_I_isNone_27 rfl rfl rfl (fun _ => ?_) (fun h1 => ?_)
    · refine zj_aload_n 75 0 X kd_I_isNone_74 rfl rfl rfl ?_
      refine mc_I_41 78 X kd_I_isNone_75 (Nat.le_of_ble_eq_true rfl) (Nat.le_of_ble_eq_true rfl) (Nat.le_of_ble_eq_true rfl) rfl (fun p3 => ?_)
      refine zj_bipush 80 15 X kd_I_isNone_78 kb_15 rfl ?_
      refine zj_icmp_le 87 83 X kd_I_isNone_80 rfl rfl (fun _ => ?_) (fun _ => ?_)
      · refine zj_iconst 88 0 X kd_I_isNone_87 ki_0 rfl ?_
        exact zj_zret X kd_I_isNone_88 (Or.inl rfl)
      · refine zj_iconst 84 1 X kd_I_isNone_83 ki_1 rfl ?_
        refine zj_goto 88 X kd_I_isNone_84 rfl ?_
        exact zj_zret X kd_I_isNone_88 (Or.inr rfl)
    refine zj_lcase 89 X kd_I_isNone_27 rfl rfl rfl (fun _ => ?_) (fun h2 => ?_)
    · refine zj_aload_n 90 0 X kd_I_isNone_89 rfl rfl rfl ?_
      refine gf_I_27 93 X kd_I_isNone_90 rfl ?_
      refine zj_iconst 94 4 X kd_I_isNone_93 ki_4 rfl ?_
      refine zj_icmp_le 101 97 X kd_I_isNone_94 rfl rfl (fun _ => ?_) (fun _ => ?_)
      · refine zj_iconst 102 0 X kd_I_isNone_101 ki_0 rfl ?_
        exact zj_zret X kd_I_isNone_102 (Or.inl rfl)
      · refine zj_iconst 98 1 X kd_I_isNone_97 ki_1 rfl ?_
        refine zj_goto 102 X kd_I_isNone_98 rfl ?_
        exact zj_zret X kd_I_isNone_102 (Or.inr rfl)
    refine zj_ldef 103 X kd_I_isNone_27 rfl ((lv_osw h0 rfl).trans ((lv_osw h1 rfl).trans ((lv_osw h2 rfl).trans rfl))) rfl ?_
    refine zj_aload_n 104 0 X kd_I_isNone_103 rfl rfl rfl ?_
    refine mc_I_34 107 X kd_I_isNone_104 (Nat.le_of_ble_eq_true rfl) (Nat.le_of_ble_eq_true rfl) (Nat.le_of_ble_eq_true rfl) rfl (fun p4 => ?_)
    refine zj_if_eq 128 110 X kd_I_isNone_107 rfl rfl (fun _ => ?_) (fun _ => ?_)
    · refine zj_iconst 129 0 X kd_I_isNone_128 ki_0 rfl ?_
      exact zj_zret X kd_I_isNone_129 (Or.inl rfl)
    · refine zj_aload_n 111 0 X kd_I_isNone_110 rfl rfl rfl ?_
      refine mc_I_45 114 X kd_I_isNone_111 (Nat.le_of_ble_eq_true rfl) (Nat.le_of_ble_eq_true rfl) (Nat.le_of_ble_eq_true rfl) rfl (fun p5 => ?_)
      refine zj_aload_n 115 0 X kd_I_isNone_114 rfl rfl rfl ?_
      refine mc_I_48 118 X kd_I_isNone_115 (Nat.le_of_ble_eq_true rfl) (Nat.le_of_ble_eq_true rfl) (Nat.le_of_ble_eq_true rfl) rfl (fun p6 => ?_)
      refine zj_ishr 119 X kd_I_isNone_118 rfl ?_
      refine zj_iconst 120 1 X kd_I_isNone_119 ki_1 rfl ?_
      refine zj_iand 121 X kd_I_isNone_120 rfl ?_
      refine zj_if_ne 128 124 X kd_I_isNone_121 rfl rfl (fun _ => ?_) (fun _ => ?_)
      · refine zj_iconst 125 1 X kd_I_isNone_124 ki_1 rfl ?_
        refine zj_goto 129 X kd_I_isNone_125 rfl ?_
        exact zj_zret X kd_I_isNone_129 (Or.inr rfl)
      · refine zj_iconst 129 0 X kd_I_isNone_128 ki_0 rfl ?_
        exact zj_zret X kd_I_isNone_129 (Or.inl rfl)
theorem c_I_isNone {l : Launch} {P : ZP} (hV : ZVok (zcV P)) (s0 : ZS)  {z : Int32 × ZS} (h : f_I_isNone s0  = some z) : zMi l y_I_isNone b_I_isNone 1 (some .boolean) 1 21 (zcV P) s0 [.ref (P.1 7)] z :=
  zMi_of (by decide +kernel) rfl rfl (Nat.le_of_ble_eq_true rfl) hV (fun _ X => j_I_isNone X s0 ) h
theorem kc_P_135 : zCV "FrameMachine$Processor" 135 y_I_isNone b_I_isNone 1 (some .boolean) 0 := ⟨⟨kw_534, kw_535, kw_536, kw_8, kw_537⟩, by decide +kernel, by decide +kernel, by decide +kernel⟩
theorem mc_P_135 {ρ : Type} {E : ZE} {P : ZP} {A : Nat → Prop} {cc : ByteArray} {nL : Nat} {ret : Option FieldType} {fr lo : Nat} {F : ρ → State → Prop} {pc : Nat} {L : List (Nat × Value)} {rest : List Value} {σ : ZS}  {K : Int32 × ZS → Option ρ} (q : Nat) (X : ZX E (zcV P) A "FrameMachine$Processor" cc nL ret fr lo) (d : decode cc pc = .ok (.invokevirtual 135, 3)) (hfr : 1 + 1 ≤ fr) (hlo : 8 + (1 + 11) + 21 ≤ lo) (hr : (rest.map fun v => v.category).sum ≤ 8) (hq : pc + 3 = q) (kk : ∀ p : Int32 × ZS, ZJ E (zcV P) A nL F q L (.int p.1 :: rest) p.2 (K p)) : ZJ E (zcV P) A nL F pc L (.ref (P.1 7) :: rest) σ ((f_I_isNone σ ).bind K) :=
  zj_cVi q 7 7 (As := []) (rest := rest) X kc_P_135 hfr hlo (fun p h => c_I_isNone (zx_v X) σ  h) rfl rfl rfl hr d hq kk
-- FrameMachine$Instruction.needsSupervisor()Z
theorem kd_I_needsSupervisor_0 : decode b_I_needsSupervisor 0 = .ok (.aload_n 0, 1) := by decide +kernel
theorem kd_I_needsSupervisor_1 : decode b_I_needsSupervisor 1 = .ok (.getfield 15, 3) := by decide +kernel
theorem kd_I_needsSupervisor_4 : decode b_I_needsSupervisor 4 = .ok (.bipush 26, 2) := by decide +kernel
theorem kd_I_needsSupervisor_6 : decode b_I_needsSupervisor 6 = .ok (.if_icmp .eq 37, 3) := by decide +kernel
theorem kd_I_needsSupervisor_9 : decode b_I_needsSupervisor 9 = .ok (.aload_n 0, 1) := by decide +kernel
theorem kd_I_needsSupervisor_10 : decode b_I_needsSupervisor 10 = .ok (.getfield 15, 3) := by decide +kernel
theorem kd_I_needsSupervisor_13 : decode b_I_needsSupervisor 13 = .ok (.bipush 28, 2) := by decide +kernel
theorem kd_I_needsSupervisor_15 : decode b_I_needsSupervisor 15 = .ok (.if_icmp .eq 28, 3) := by decide +kernel
theorem kd_I_needsSupervisor_18 : decode b_I_needsSupervisor 18 = .ok (.aload_n 0, 1) := by decide +kernel
theorem kd_I_needsSupervisor_19 : decode b_I_needsSupervisor 19 = .ok (.getfield 15, 3) := by decide +kernel
theorem kd_I_needsSupervisor_22 : decode b_I_needsSupervisor 22 = .ok (.bipush 24, 2) := by decide +kernel
theorem kd_I_needsSupervisor_24 : decode b_I_needsSupervisor 24 = .ok (.if_icmp .ne 23, 3) := by decide +kernel
theorem kd_I_needsSupervisor_27 : decode b_I_needsSupervisor 27 = .ok (.aload_n 0, 1) := by decide +kernel
theorem kd_I_needsSupervisor_28 : decode b_I_needsSupervisor 28 = .ok (.getfield 27, 3) := by decide +kernel
theorem kd_I_needsSupervisor_31 : decode b_I_needsSupervisor 31 = .ok (.iconst 2, 1) := by decide +kernel
theorem kd_I_needsSupervisor_32 : decode b_I_needsSupervisor 32 = .ok (.if_icmp .eq 11, 3) := by decide +kernel
theorem kd_I_needsSupervisor_35 : decode b_I_needsSupervisor 35 = .ok (.aload_n 0, 1) := by decide +kernel
theorem kd_I_needsSupervisor_36 : decode b_I_needsSupervisor 36 = .ok (.getfield 27, 3) := by decide +kernel
theorem kd_I_needsSupervisor_39 : decode b_I_needsSupervisor 39 = .ok (.iconst 3, 1) := by decide +kernel
theorem kd_I_needsSupervisor_40 : decode b_I_needsSupervisor 40 = .ok (.if_icmp .ne 7, 3) := by decide +kernel
theorem kd_I_needsSupervisor_43 : decode b_I_needsSupervisor 43 = .ok (.iconst 1, 1) := by decide +kernel
theorem kd_I_needsSupervisor_44 : decode b_I_needsSupervisor 44 = .ok (.goto 4, 3) := by decide +kernel
theorem kd_I_needsSupervisor_47 : decode b_I_needsSupervisor 47 = .ok (.iconst 0, 1) := by decide +kernel
theorem kd_I_needsSupervisor_48 : decode b_I_needsSupervisor 48 = .ok (.ireturn, 1) := by decide +kernel
noncomputable def f_I_needsSupervisor_43 (s0 : ZS)  : Option (Int32 × ZS) :=
  some (1, s0)
noncomputable def f_I_needsSupervisor (s0 : ZS)  : Option (Int32 × ZS) :=
  if (s0 0 24) = 26 then
    f_I_needsSupervisor_43 s0
  else
    if (s0 0 24) = 28 then
      f_I_needsSupervisor_43 s0
    else
      if (s0 0 24) = 24 then
        if (s0 0 28) = 2 then
          f_I_needsSupervisor_43 s0
        else
          if (s0 0 28) = 3 then
            f_I_needsSupervisor_43 s0
          else
            some (0, s0)
      else
        some (0, s0)
theorem j_I_needsSupervisor_43 {P : ZP} {E : ZE} {A : Nat → Prop} (X : ZX E (zcV P) A "FrameMachine$Instruction" b_I_needsSupervisor 1 (some .boolean) 0 0) (s0 : ZS)  : ZJ E (zcV P) A 1 (zFi E (zcV P) A) 43 [] [] s0 (f_I_needsSupervisor_43 s0) := by
  unfold f_I_needsSupervisor_43
  refine zj_iconst 44 1 X kd_I_needsSupervisor_43 ki_1 rfl ?_
  refine zj_goto 48 X kd_I_needsSupervisor_44 rfl ?_
  exact zj_zret X kd_I_needsSupervisor_48 (Or.inr rfl)
theorem j_I_needsSupervisor {P : ZP} {E : ZE} {A : Nat → Prop} (X : ZX E (zcV P) A "FrameMachine$Instruction" b_I_needsSupervisor 1 (some .boolean) 0 0) (s0 : ZS)  : ZJ E (zcV P) A 1 (zFi E (zcV P) A) 0 [(0, .ref (P.1 7))] [] s0 (f_I_needsSupervisor s0) := by
  unfold f_I_needsSupervisor
  refine zj_aload_n 1 0 X kd_I_needsSupervisor_0 rfl rfl rfl ?_
  refine gf_I_15 4 X kd_I_needsSupervisor_1 rfl ?_
  refine zj_bipush 6 26 X kd_I_needsSupervisor_4 kb_26 rfl ?_
  refine zj_icmp_eq 43 9 X kd_I_needsSupervisor_6 rfl rfl (fun _ => ?_) (fun _ => ?_)
  · refine zj_loc [] (L2 := []) rfl ?_
    exact j_I_needsSupervisor_43 X s0
  · refine zj_aload_n 10 0 X kd_I_needsSupervisor_9 rfl rfl rfl ?_
    refine gf_I_15 13 X kd_I_needsSupervisor_10 rfl ?_
    refine zj_bipush 15 28 X kd_I_needsSupervisor_13 kb_28 rfl ?_
    refine zj_icmp_eq 43 18 X kd_I_needsSupervisor_15 rfl rfl (fun _ => ?_) (fun _ => ?_)
    · refine zj_loc [] (L2 := []) rfl ?_
      exact j_I_needsSupervisor_43 X s0
    · refine zj_aload_n 19 0 X kd_I_needsSupervisor_18 rfl rfl rfl ?_
      refine gf_I_15 22 X kd_I_needsSupervisor_19 rfl ?_
      refine zj_bipush 24 24 X kd_I_needsSupervisor_22 kb_24 rfl ?_
      refine zj_icmp_ne 47 27 X kd_I_needsSupervisor_24 rfl rfl (fun _ => ?_) (fun _ => ?_)
      · refine zj_aload_n 28 0 X kd_I_needsSupervisor_27 rfl rfl rfl ?_
        refine gf_I_27 31 X kd_I_needsSupervisor_28 rfl ?_
        refine zj_iconst 32 2 X kd_I_needsSupervisor_31 ki_2 rfl ?_
        refine zj_icmp_eq 43 35 X kd_I_needsSupervisor_32 rfl rfl (fun _ => ?_) (fun _ => ?_)
        · refine zj_loc [] (L2 := []) rfl ?_
          exact j_I_needsSupervisor_43 X s0
        · refine zj_aload_n 36 0 X kd_I_needsSupervisor_35 rfl rfl rfl ?_
          refine gf_I_27 39 X kd_I_needsSupervisor_36 rfl ?_
          refine zj_iconst 40 3 X kd_I_needsSupervisor_39 ki_3 rfl ?_
          refine zj_icmp_ne 47 43 X kd_I_needsSupervisor_40 rfl rfl (fun _ => ?_) (fun _ => ?_)
          · refine zj_loc [] (L2 := []) rfl ?_
            exact j_I_needsSupervisor_43 X s0
          · refine zj_iconst 48 0 X kd_I_needsSupervisor_47 ki_0 rfl ?_
            exact zj_zret X kd_I_needsSupervisor_48 (Or.inl rfl)
      · refine zj_iconst 48 0 X kd_I_needsSupervisor_47 ki_0 rfl ?_
        exact zj_zret X kd_I_needsSupervisor_48 (Or.inl rfl)
theorem c_I_needsSupervisor {l : Launch} {P : ZP} (hV : ZVok (zcV P)) (s0 : ZS)  {z : Int32 × ZS} (h : f_I_needsSupervisor s0  = some z) : zMi l y_I_needsSupervisor b_I_needsSupervisor 1 (some .boolean) 0 0 (zcV P) s0 [.ref (P.1 7)] z :=
  zMi_of (by decide +kernel) rfl rfl (Nat.le_of_ble_eq_true rfl) hV (fun _ X => j_I_needsSupervisor X s0 ) h
theorem kc_P_138 : zCV "FrameMachine$Processor" 138 y_I_needsSupervisor b_I_needsSupervisor 1 (some .boolean) 0 := ⟨⟨kw_558, kw_559, kw_560, kw_8, kw_561⟩, by decide +kernel, by decide +kernel, by decide +kernel⟩
theorem mc_P_138 {ρ : Type} {E : ZE} {P : ZP} {A : Nat → Prop} {cc : ByteArray} {nL : Nat} {ret : Option FieldType} {fr lo : Nat} {F : ρ → State → Prop} {pc : Nat} {L : List (Nat × Value)} {rest : List Value} {σ : ZS}  {K : Int32 × ZS → Option ρ} (q : Nat) (X : ZX E (zcV P) A "FrameMachine$Processor" cc nL ret fr lo) (d : decode cc pc = .ok (.invokevirtual 138, 3)) (hfr : 0 + 1 ≤ fr) (hlo : 8 + (1 + 11) + 0 ≤ lo) (hr : (rest.map fun v => v.category).sum ≤ 8) (hq : pc + 3 = q) (kk : ∀ p : Int32 × ZS, ZJ E (zcV P) A nL F q L (.int p.1 :: rest) p.2 (K p)) : ZJ E (zcV P) A nL F pc L (.ref (P.1 7) :: rest) σ ((f_I_needsSupervisor σ ).bind K) :=
  zj_cVi q 7 7 (As := []) (rest := rest) X kc_P_138 hfr hlo (fun p h => c_I_needsSupervisor (zx_v X) σ  h) rfl rfl rfl hr d hq kk
-- FrameMachine$Processor.begin()V
theorem kd_P_begin_0 : decode b_P_begin 0 = .ok (.aload_n 0, 1) := by decide +kernel
theorem kd_P_begin_1 : decode b_P_begin 1 = .ok (.getfield 18, 3) := by decide +kernel
theorem kd_P_begin_4 : decode b_P_begin 4 = .ok (.iconst 0, 1) := by decide +kernel
theorem kd_P_begin_5 : decode b_P_begin 5 = .ok (.putfield 117, 3) := by decide +kernel
theorem kd_P_begin_8 : decode b_P_begin 8 = .ok (.aload_n 0, 1) := by decide +kernel
theorem kd_P_begin_9 : decode b_P_begin 9 = .ok (.iconst 0, 1) := by decide +kernel
theorem kd_P_begin_10 : decode b_P_begin 10 = .ok (.putfield 120, 3) := by decide +kernel
theorem kd_P_begin_13 : decode b_P_begin 13 = .ok (.aload_n 0, 1) := by decide +kernel
theorem kd_P_begin_14 : decode b_P_begin 14 = .ok (.aload_n 0, 1) := by decide +kernel
theorem kd_P_begin_15 : decode b_P_begin 15 = .ok (.getfield 22, 3) := by decide +kernel
theorem kd_P_begin_18 : decode b_P_begin 18 = .ok (.getfield 85, 3) := by decide +kernel
theorem kd_P_begin_21 : decode b_P_begin 21 = .ok (.putfield 123, 3) := by decide +kernel
theorem kd_P_begin_24 : decode b_P_begin 24 = .ok (.aload_n 0, 1) := by decide +kernel
theorem kd_P_begin_25 : decode b_P_begin 25 = .ok (.getfield 12, 3) := by decide +kernel
theorem kd_P_begin_28 : decode b_P_begin 28 = .ok (.aload_n 0, 1) := by decide +kernel
theorem kd_P_begin_29 : decode b_P_begin 29 = .ok (.getfield 26, 3) := by decide +kernel
theorem kd_P_begin_32 : decode b_P_begin 32 = .ok (.invokevirtual 126, 3) := by decide +kernel
theorem kd_P_begin_35 : decode b_P_begin 35 = .ok (.invokevirtual 131, 3) := by decide +kernel
theorem kd_P_begin_38 : decode b_P_begin 38 = .ok (.aload_n 0, 1) := by decide +kernel
theorem kd_P_begin_39 : decode b_P_begin 39 = .ok (.getfield 18, 3) := by decide +kernel
theorem kd_P_begin_42 : decode b_P_begin 42 = .ok (.getfield 117, 3) := by decide +kernel
theorem kd_P_begin_45 : decode b_P_begin 45 = .ok (.ifCond .eq 4, 3) := by decide +kernel
theorem kd_P_begin_48 : decode b_P_begin 48 = .ok (.return_, 1) := by decide +kernel
theorem kd_P_begin_49 : decode b_P_begin 49 = .ok (.aload_n 0, 1) := by decide +kernel
theorem kd_P_begin_50 : decode b_P_begin 50 = .ok (.getfield 12, 3) := by decide +kernel
theorem kd_P_begin_53 : decode b_P_begin 53 = .ok (.invokevirtual 135, 3) := by decide +kernel
theorem kd_P_begin_56 : decode b_P_begin 56 = .ok (.ifCond .eq 11, 3) := by decide +kernel
theorem kd_P_begin_59 : decode b_P_begin 59 = .ok (.aload_n 0, 1) := by decide +kernel
theorem kd_P_begin_60 : decode b_P_begin 60 = .ok (.iconst 4, 1) := by decide +kernel
theorem kd_P_begin_61 : decode b_P_begin 61 = .ok (.putfield 120, 3) := by decide +kernel
theorem kd_P_begin_64 : decode b_P_begin 64 = .ok (.goto 32, 3) := by decide +kernel
theorem kd_P_begin_67 : decode b_P_begin 67 = .ok (.aload_n 0, 1) := by decide +kernel
theorem kd_P_begin_68 : decode b_P_begin 68 = .ok (.getfield 12, 3) := by decide +kernel
theorem kd_P_begin_71 : decode b_P_begin 71 = .ok (.invokevirtual 138, 3) := by decide +kernel
theorem kd_P_begin_74 : decode b_P_begin 74 = .ok (.ifCond .eq 22, 3) := by decide +kernel
theorem kd_P_begin_77 : decode b_P_begin 77 = .ok (.aload_n 0, 1) := by decide +kernel
theorem kd_P_begin_78 : decode b_P_begin 78 = .ok (.getfield 22, 3) := by decide +kernel
theorem kd_P_begin_81 : decode b_P_begin 81 = .ok (.sipush 8192, 3) := by decide +kernel
theorem kd_P_begin_84 : decode b_P_begin 84 = .ok (.invokevirtual 93, 3) := by decide +kernel
theorem kd_P_begin_87 : decode b_P_begin 87 = .ok (.ifCond .ne 9, 3) := by decide +kernel
theorem kd_P_begin_90 : decode b_P_begin 90 = .ok (.aload_n 0, 1) := by decide +kernel
theorem kd_P_begin_91 : decode b_P_begin 91 = .ok (.bipush 8, 2) := by decide +kernel
theorem kd_P_begin_93 : decode b_P_begin 93 = .ok (.putfield 120, 3) := by decide +kernel
theorem kd_P_begin_96 : decode b_P_begin 96 = .ok (.return_, 1) := by decide +kernel
noncomputable def f_P_begin (s0 : ZS)  : Option (ZS) :=
  zs_nm (zs_up s0 0 10 0) fun s1 =>
  zs_nm (zs_up s1 0 22 0) fun s2 =>
  zs_nm (zs_up s2 0 21 (s2 0 14)) fun s3 =>
  (f_Q_nextWord s3 ).bind fun p4 =>
  (f_I_decode p4.2 p4.1).bind fun s5 =>
  if (s5 0 10) = 0 then
    (f_I_isNone s5 ).bind fun p6 =>
    if p6.1 = 0 then
      (f_I_needsSupervisor p6.2 ).bind fun p7 =>
      if p7.1 = 0 then
        some p7.2
      else
        (f_G_has p7.2 8192).bind fun p8 =>
        if p8.1 = 0 then
          zs_nm (zs_up p8.2 0 22 8) fun s9 =>
          some s9
        else
          some p8.2
    else
      zs_nm (zs_up p6.2 0 22 4) fun s10 =>
      some s10
  else
    some s5
theorem j_P_begin {P : ZP} {E : ZE} {A : Nat → Prop} (X : ZX E (zcV P) A "FrameMachine$Processor" b_P_begin 1 none 3 70) (s0 : ZS)  : ZJ E (zcV P) A 1 (zFv E (zcV P) A) 0 [(0, .ref (P.1 6))] [] s0 (f_P_begin s0) := by
  unfold f_P_begin
  refine zj_aload_n 1 0 X kd_P_begin_0 rfl rfl rfl ?_
  refine gf_P_18 4 X kd_P_begin_1 rfl ?_
  refine zj_iconst 5 0 X kd_P_begin_4 ki_0 rfl ?_
  refine pf_P_117 8 X kd_P_begin_5 rfl ?_
  refine zj_nms (fun s1 => ?_)
  refine zj_aload_n 9 0 X kd_P_begin_8 rfl rfl rfl ?_
  refine zj_iconst 10 0 X kd_P_begin_9 ki_0 rfl ?_
  refine pf_P_120 13 X kd_P_begin_10 rfl ?_
  refine zj_nms (fun s2 => ?_)
  refine zj_aload_n 14 0 X kd_P_begin_13 rfl rfl rfl ?_
  refine zj_aload_n 15 0 X kd_P_begin_14 rfl rfl rfl ?_
  refine gf_P_22 18 X kd_P_begin_15 rfl ?_
  refine gf_P_85 21 X kd_P_begin_18 rfl ?_
  refine pf_P_123 24 X kd_P_begin_21 rfl ?_
  refine zj_nms (fun s3 => ?_)
  refine zj_aload_n 25 0 X kd_P_begin_24 rfl rfl rfl ?_
  refine gf_P_12 28 X kd_P_begin_25 rfl ?_
  refine zj_aload_n 29 0 X kd_P_begin_28 rfl rfl rfl ?_
  refine gf_P_26 32 X kd_P_begin_29 rfl ?_
  refine mc_P_126 35 X kd_P_begin_32 (Nat.le_of_ble_eq_true rfl) (Nat.le_of_ble_eq_true rfl) (Nat.le_of_ble_eq_true rfl) rfl (fun p4 => ?_)
  refine mc_P_131 38 X kd_P_begin_35 (Nat.le_of_ble_eq_true rfl) (Nat.le_of_ble_eq_true rfl) (Nat.le_of_ble_eq_true rfl) rfl (fun s5 => ?_)
  refine zj_aload_n 39 0 X kd_P_begin_38 rfl rfl rfl ?_
  refine gf_P_18 42 X kd_P_begin_39 rfl ?_
  refine gf_P_117 45 X kd_P_begin_42 rfl ?_
  refine zj_if_eq 49 48 X kd_P_begin_45 rfl rfl (fun _ => ?_) (fun _ => ?_)
  · refine zj_aload_n 50 0 X kd_P_begin_49 rfl rfl rfl ?_
    refine gf_P_12 53 X kd_P_begin_50 rfl ?_
    refine mc_P_135 56 X kd_P_begin_53 (Nat.le_of_ble_eq_true rfl) (Nat.le_of_ble_eq_true rfl) (Nat.le_of_ble_eq_true rfl) rfl (fun p6 => ?_)
    refine zj_if_eq 67 59 X kd_P_begin_56 rfl rfl (fun _ => ?_) (fun _ => ?_)
    · refine zj_aload_n 68 0 X kd_P_begin_67 rfl rfl rfl ?_
      refine gf_P_12 71 X kd_P_begin_68 rfl ?_
      refine mc_P_138 74 X kd_P_begin_71 (Nat.le_of_ble_eq_true rfl) (Nat.le_of_ble_eq_true rfl) (Nat.le_of_ble_eq_true rfl) rfl (fun p7 => ?_)
      refine zj_if_eq 96 77 X kd_P_begin_74 rfl rfl (fun _ => ?_) (fun _ => ?_)
      · exact zj_vret X kd_P_begin_96
      · refine zj_aload_n 78 0 X kd_P_begin_77 rfl rfl rfl ?_
        refine gf_P_22 81 X kd_P_begin_78 rfl ?_
        refine zj_sipush 84 8192 X kd_P_begin_81 ks_8192 rfl ?_
        refine mc_P_93 87 X kd_P_begin_84 (Nat.le_of_ble_eq_true rfl) (Nat.le_of_ble_eq_true rfl) (Nat.le_of_ble_eq_true rfl) rfl (fun p8 => ?_)
        refine zj_if_ne 96 90 X kd_P_begin_87 rfl rfl (fun _ => ?_) (fun _ => ?_)
        · refine zj_aload_n 91 0 X kd_P_begin_90 rfl rfl rfl ?_
          refine zj_bipush 93 8 X kd_P_begin_91 kb_8 rfl ?_
          refine pf_P_120 96 X kd_P_begin_93 rfl ?_
          refine zj_nms (fun s9 => ?_)
          exact zj_vret X kd_P_begin_96
        · exact zj_vret X kd_P_begin_96
    · refine zj_aload_n 60 0 X kd_P_begin_59 rfl rfl rfl ?_
      refine zj_iconst 61 4 X kd_P_begin_60 ki_4 rfl ?_
      refine pf_P_120 64 X kd_P_begin_61 rfl ?_
      refine zj_nms (fun s10 => ?_)
      refine zj_goto 96 X kd_P_begin_64 rfl ?_
      exact zj_vret X kd_P_begin_96
  · exact zj_vret X kd_P_begin_48
theorem c_P_begin {l : Launch} {P : ZP} (hV : ZVok (zcV P)) (s0 : ZS)  {z : ZS} (h : f_P_begin s0  = some z) : zMv l y_P_begin b_P_begin 1 none 3 70 (zcV P) s0 [.ref (P.1 6)] z :=
  zMv_of (by decide +kernel) rfl rfl (Nat.le_of_ble_eq_true rfl) hV (fun _ X => j_P_begin X s0 ) h
theorem kc_P_97 : zCV "FrameMachine$Processor" 97 y_P_begin b_P_begin 1 none 0 := ⟨⟨kw_521, kw_523, ksel_6, kw_7, kw_524⟩, by decide +kernel, by decide +kernel, by decide +kernel⟩
theorem mc_P_97 {ρ : Type} {E : ZE} {P : ZP} {A : Nat → Prop} {cc : ByteArray} {nL : Nat} {ret : Option FieldType} {fr lo : Nat} {F : ρ → State → Prop} {pc : Nat} {L : List (Nat × Value)} {rest : List Value} {σ : ZS}  {K : ZS → Option ρ} (q : Nat) (X : ZX E (zcV P) A "FrameMachine$Processor" cc nL ret fr lo) (d : decode cc pc = .ok (.invokevirtual 97, 3)) (hfr : 3 + 1 ≤ fr) (hlo : 8 + (1 + 11) + 70 ≤ lo) (hr : (rest.map fun v => v.category).sum ≤ 8) (hq : pc + 3 = q) (kk : ∀ p : ZS, ZJ E (zcV P) A nL F q L (rest) p (K p)) : ZJ E (zcV P) A nL F pc L (.ref (P.1 6) :: rest) σ ((f_P_begin σ ).bind K) :=
  zj_cVv q 6 6 (As := []) (rest := rest) X kc_P_97 hfr hlo (fun p h => c_P_begin (zx_v X) σ  h) rfl rfl rfl hr d hq kk
-- FrameMachine$Processor.goesOn()Z
theorem kd_P_goesOn_0 : decode b_P_goesOn 0 = .ok (.aload_n 0, 1) := by decide +kernel
theorem kd_P_goesOn_1 : decode b_P_goesOn 1 = .ok (.getfield 18, 3) := by decide +kernel
theorem kd_P_goesOn_4 : decode b_P_goesOn 4 = .ok (.getfield 117, 3) := by decide +kernel
theorem kd_P_goesOn_7 : decode b_P_goesOn 7 = .ok (.ifCond .ne 14, 3) := by decide +kernel
theorem kd_P_goesOn_10 : decode b_P_goesOn 10 = .ok (.aload_n 0, 1) := by decide +kernel
theorem kd_P_goesOn_11 : decode b_P_goesOn 11 = .ok (.getfield 120, 3) := by decide +kernel
theorem kd_P_goesOn_14 : decode b_P_goesOn 14 = .ok (.ifCond .ne 7, 3) := by decide +kernel
theorem kd_P_goesOn_17 : decode b_P_goesOn 17 = .ok (.iconst 1, 1) := by decide +kernel
theorem kd_P_goesOn_18 : decode b_P_goesOn 18 = .ok (.goto 4, 3) := by decide +kernel
theorem kd_P_goesOn_21 : decode b_P_goesOn 21 = .ok (.iconst 0, 1) := by decide +kernel
theorem kd_P_goesOn_22 : decode b_P_goesOn 22 = .ok (.ireturn, 1) := by decide +kernel
noncomputable def f_P_goesOn (s0 : ZS)  : Option (Int32 × ZS) :=
  if (s0 0 10) = 0 then
    if (s0 0 22) = 0 then
      some (1, s0)
    else
      some (0, s0)
  else
    some (0, s0)
theorem j_P_goesOn {P : ZP} {E : ZE} {A : Nat → Prop} (X : ZX E (zcV P) A "FrameMachine$Processor" b_P_goesOn 1 (some .boolean) 0 0) (s0 : ZS)  : ZJ E (zcV P) A 1 (zFi E (zcV P) A) 0 [(0, .ref (P.1 6))] [] s0 (f_P_goesOn s0) := by
  unfold f_P_goesOn
  refine zj_aload_n 1 0 X kd_P_goesOn_0 rfl rfl rfl ?_
  refine gf_P_18 4 X kd_P_goesOn_1 rfl ?_
  refine gf_P_117 7 X kd_P_goesOn_4 rfl ?_
  refine zj_if_ne 21 10 X kd_P_goesOn_7 rfl rfl (fun _ => ?_) (fun _ => ?_)
  · refine zj_aload_n 11 0 X kd_P_goesOn_10 rfl rfl rfl ?_
    refine gf_P_120 14 X kd_P_goesOn_11 rfl ?_
    refine zj_if_ne 21 17 X kd_P_goesOn_14 rfl rfl (fun _ => ?_) (fun _ => ?_)
    · refine zj_iconst 18 1 X kd_P_goesOn_17 ki_1 rfl ?_
      refine zj_goto 22 X kd_P_goesOn_18 rfl ?_
      exact zj_zret X kd_P_goesOn_22 (Or.inr rfl)
    · refine zj_iconst 22 0 X kd_P_goesOn_21 ki_0 rfl ?_
      exact zj_zret X kd_P_goesOn_22 (Or.inl rfl)
  · refine zj_iconst 22 0 X kd_P_goesOn_21 ki_0 rfl ?_
    exact zj_zret X kd_P_goesOn_22 (Or.inl rfl)
theorem c_P_goesOn {l : Launch} {P : ZP} (hV : ZVok (zcV P)) (s0 : ZS)  {z : Int32 × ZS} (h : f_P_goesOn s0  = some z) : zMi l y_P_goesOn b_P_goesOn 1 (some .boolean) 0 0 (zcV P) s0 [.ref (P.1 6)] z :=
  zMi_of (by decide +kernel) rfl rfl (Nat.le_of_ble_eq_true rfl) hV (fun _ X => j_P_goesOn X s0 ) h
theorem kc_P_100 : zCV "FrameMachine$Processor" 100 y_P_goesOn b_P_goesOn 1 (some .boolean) 0 := ⟨⟨kw_562, kw_564, ksel_8, kw_7, kw_565⟩, by decide +kernel, by decide +kernel, by decide +kernel⟩
theorem mc_P_100 {ρ : Type} {E : ZE} {P : ZP} {A : Nat → Prop} {cc : ByteArray} {nL : Nat} {ret : Option FieldType} {fr lo : Nat} {F : ρ → State → Prop} {pc : Nat} {L : List (Nat × Value)} {rest : List Value} {σ : ZS}  {K : Int32 × ZS → Option ρ} (q : Nat) (X : ZX E (zcV P) A "FrameMachine$Processor" cc nL ret fr lo) (d : decode cc pc = .ok (.invokevirtual 100, 3)) (hfr : 0 + 1 ≤ fr) (hlo : 8 + (1 + 11) + 0 ≤ lo) (hr : (rest.map fun v => v.category).sum ≤ 8) (hq : pc + 3 = q) (kk : ∀ p : Int32 × ZS, ZJ E (zcV P) A nL F q L (.int p.1 :: rest) p.2 (K p)) : ZJ E (zcV P) A nL F pc L (.ref (P.1 6) :: rest) σ ((f_P_goesOn σ ).bind K) :=
  zj_cVi q 6 6 (As := []) (rest := rest) X kc_P_100 hfr hlo (fun p h => c_P_goesOn (zx_v X) σ  h) rfl rfl rfl hr d hq kk
-- FrameMachine$Exceptions.note(I)V
theorem kd_E_note_0 : decode b_E_note 0 = .ok (.aload_n 0, 1) := by decide +kernel
theorem kd_E_note_1 : decode b_E_note 1 = .ok (.iload_n 1, 1) := by decide +kernel
theorem kd_E_note_2 : decode b_E_note 2 = .ok (.putfield 75, 3) := by decide +kernel
theorem kd_E_note_5 : decode b_E_note 5 = .ok (.aload_n 0, 1) := by decide +kernel
theorem kd_E_note_6 : decode b_E_note 6 = .ok (.dup, 1) := by decide +kernel
theorem kd_E_note_7 : decode b_E_note 7 = .ok (.getfield 78, 3) := by decide +kernel
theorem kd_E_note_10 : decode b_E_note 10 = .ok (.iconst 1, 1) := by decide +kernel
theorem kd_E_note_11 : decode b_E_note 11 = .ok (.iadd, 1) := by decide +kernel
theorem kd_E_note_12 : decode b_E_note 12 = .ok (.putfield 78, 3) := by decide +kernel
theorem kd_E_note_15 : decode b_E_note 15 = .ok (.return_, 1) := by decide +kernel
noncomputable def f_E_note (s0 : ZS) (x1 : Int32) : Option (ZS) :=
  zs_nm (zs_up s0 0 16 x1) fun s1 =>
  zs_nm (zs_up s1 0 17 ((s1 0 17) + 1)) fun s2 =>
  some s2
theorem j_E_note {P : ZP} {E : ZE} {A : Nat → Prop} (X : ZX E (zcV P) A "FrameMachine$Exceptions" b_E_note 2 none 0 0) (s0 : ZS) (x1 : Int32) : ZJ E (zcV P) A 2 (zFv E (zcV P) A) 0 [(0, .ref (P.1 5)), (1, .int x1)] [] s0 (f_E_note s0 x1) := by
  unfold f_E_note
  refine zj_aload_n 1 0 X kd_E_note_0 rfl rfl rfl ?_
  refine zj_iload_n 2 1 X kd_E_note_1 rfl rfl rfl ?_
  refine pf_E_75 5 X kd_E_note_2 rfl ?_
  refine zj_nms (fun s1 => ?_)
  refine zj_aload_n 6 0 X kd_E_note_5 rfl rfl rfl ?_
  refine zj_dup 7 X kd_E_note_6 rfl rfl ?_
  refine gf_E_78 10 X kd_E_note_7 rfl ?_
  refine zj_iconst 11 1 X kd_E_note_10 ki_1 rfl ?_
  refine zj_iadd 12 X kd_E_note_11 rfl ?_
  refine pf_E_78 15 X kd_E_note_12 rfl ?_
  refine zj_nms (fun s2 => ?_)
  exact zj_vret X kd_E_note_15
theorem c_E_note {l : Launch} {P : ZP} (hV : ZVok (zcV P)) (s0 : ZS) (x1 : Int32) {z : ZS} (h : f_E_note s0 x1 = some z) : zMv l y_E_note b_E_note 2 none 0 0 (zcV P) s0 [.ref (P.1 5), .int x1] z :=
  zMv_of (by decide +kernel) rfl rfl (Nat.le_of_ble_eq_true rfl) hV (fun _ X => j_E_note X s0 x1) h
theorem kc_E_42 : zCV "FrameMachine$Exceptions" 42 y_E_note b_E_note 2 none 1 := ⟨⟨kw_498, kw_500, ksel_5, kw_6, kw_501⟩, by decide +kernel, by decide +kernel, by decide +kernel⟩
theorem mc_E_42 {ρ : Type} {E : ZE} {P : ZP} {A : Nat → Prop} {cc : ByteArray} {nL : Nat} {ret : Option FieldType} {fr lo : Nat} {F : ρ → State → Prop} {pc : Nat} {L : List (Nat × Value)} {rest : List Value} {σ : ZS} {x1 : Int32} {K : ZS → Option ρ} (q : Nat) (X : ZX E (zcV P) A "FrameMachine$Exceptions" cc nL ret fr lo) (d : decode cc pc = .ok (.invokevirtual 42, 3)) (hfr : 0 + 1 ≤ fr) (hlo : 8 + (2 + 11) + 0 ≤ lo) (hr : (rest.map fun v => v.category).sum ≤ 8) (hq : pc + 3 = q) (kk : ∀ p : ZS, ZJ E (zcV P) A nL F q L (rest) p (K p)) : ZJ E (zcV P) A nL F pc L (.int x1 :: .ref (P.1 5) :: rest) σ ((f_E_note σ x1).bind K) :=
  zj_cVv q 5 5 (As := [.int x1]) (rest := rest) X kc_E_42 hfr hlo (fun p h => c_E_note (zx_v X) σ x1 h) rfl rfl rfl hr d hq kk
-- FrameMachine$Exceptions.statusIn(II)I
theorem kd_E_statusIn_0 : decode b_E_statusIn 0 = .ok (.iload_n 1, 1) := by decide +kernel
theorem kd_E_statusIn_1 : decode b_E_statusIn 1 = .ok (.sipush 8192, 3) := by decide +kernel
theorem kd_E_statusIn_4 : decode b_E_statusIn 4 = .ok (.ior, 1) := by decide +kernel
theorem kd_E_statusIn_5 : decode b_E_statusIn 5 = .ok (.ldc 81, 2) := by decide +kernel
theorem kd_E_statusIn_7 : decode b_E_statusIn 7 = .ok (.iand, 1) := by decide +kernel
theorem kd_E_statusIn_8 : decode b_E_statusIn 8 = .ok (.istore_n 2, 1) := by decide +kernel
theorem kd_E_statusIn_9 : decode b_E_statusIn 9 = .ok (.iload_n 0, 1) := by decide +kernel
theorem kd_E_statusIn_10 : decode b_E_statusIn 10 = .ok (.bipush 24, 2) := by decide +kernel
theorem kd_E_statusIn_12 : decode b_E_statusIn 12 = .ok (.if_icmp .le 13, 3) := by decide +kernel
theorem kd_E_statusIn_15 : decode b_E_statusIn 15 = .ok (.iload_n 0, 1) := by decide +kernel
theorem kd_E_statusIn_16 : decode b_E_statusIn 16 = .ok (.bipush 32, 2) := by decide +kernel
theorem kd_E_statusIn_18 : decode b_E_statusIn 18 = .ok (.if_icmp .ge 7, 3) := by decide +kernel
theorem kd_E_statusIn_21 : decode b_E_statusIn 21 = .ok (.iconst 1, 1) := by decide +kernel
theorem kd_E_statusIn_22 : decode b_E_statusIn 22 = .ok (.goto 4, 3) := by decide +kernel
theorem kd_E_statusIn_25 : decode b_E_statusIn 25 = .ok (.iconst 0, 1) := by decide +kernel
theorem kd_E_statusIn_26 : decode b_E_statusIn 26 = .ok (.istore_n 3, 1) := by decide +kernel
theorem kd_E_statusIn_27 : decode b_E_statusIn 27 = .ok (.iload_n 3, 1) := by decide +kernel
theorem kd_E_statusIn_28 : decode b_E_statusIn 28 = .ok (.ifCond .eq 19, 3) := by decide +kernel
theorem kd_E_statusIn_31 : decode b_E_statusIn 31 = .ok (.iload_n 2, 1) := by decide +kernel
theorem kd_E_statusIn_32 : decode b_E_statusIn 32 = .ok (.sipush (-1793), 3) := by decide +kernel
theorem kd_E_statusIn_35 : decode b_E_statusIn 35 = .ok (.iand, 1) := by decide +kernel
theorem kd_E_statusIn_36 : decode b_E_statusIn 36 = .ok (.iload_n 0, 1) := by decide +kernel
theorem kd_E_statusIn_37 : decode b_E_statusIn 37 = .ok (.bipush 24, 2) := by decide +kernel
theorem kd_E_statusIn_39 : decode b_E_statusIn 39 = .ok (.isub, 1) := by decide +kernel
theorem kd_E_statusIn_40 : decode b_E_statusIn 40 = .ok (.bipush 8, 2) := by decide +kernel
theorem kd_E_statusIn_42 : decode b_E_statusIn 42 = .ok (.ishl, 1) := by decide +kernel
theorem kd_E_statusIn_43 : decode b_E_statusIn 43 = .ok (.ior, 1) := by decide +kernel
theorem kd_E_statusIn_44 : decode b_E_statusIn 44 = .ok (.goto 4, 3) := by decide +kernel
theorem kd_E_statusIn_47 : decode b_E_statusIn 47 = .ok (.iload_n 2, 1) := by decide +kernel
theorem kd_E_statusIn_48 : decode b_E_statusIn 48 = .ok (.ireturn, 1) := by decide +kernel
noncomputable def f_E_statusIn_26 (s0 : ZS) (l0 : Int32) (l2 : Int32) (t0 : Int32) : Option (Int32 × ZS) :=
  if t0 = 0 then
    some (l2, s0)
  else
    some ((l2 &&& ((-1793))) ||| (zo_shl (l0 - 24) 8), s0)
noncomputable def f_E_statusIn_25 (s0 : ZS) (l0 : Int32) (l2 : Int32) : Option (Int32 × ZS) :=
  f_E_statusIn_26 s0 l0 l2 0
noncomputable def f_E_statusIn (s0 : ZS) (x1 : Int32) (x2 : Int32) : Option (Int32 × ZS) :=
  zs_nm ((x2 ||| 8192) &&& ((-32769))) fun v1 =>
  if x1 ≤ 24 then
    f_E_statusIn_25 s0 x1 v1
  else
    if 32 ≤ x1 then
      f_E_statusIn_25 s0 x1 v1
    else
      f_E_statusIn_26 s0 x1 v1 1
theorem j_E_statusIn_26 {P : ZP} {E : ZE} {A : Nat → Prop} (X : ZX E (zcV P) A "FrameMachine$Exceptions" b_E_statusIn 4 (some .int) 0 0) (s0 : ZS) (l0 : Int32) (l2 : Int32) (t0 : Int32) : ZJ E (zcV P) A 4 (zFi E (zcV P) A) 26 [(0, .int l0), (2, .int l2)] [.int t0] s0 (f_E_statusIn_26 s0 l0 l2 t0) := by
  unfold f_E_statusIn_26
  refine zj_istore_n 27 [(3, .int t0), (0, .int l0), (2, .int l2)] X kd_E_statusIn_26 rfl (Nat.le_of_ble_eq_true rfl) rfl rfl ?_
  refine zj_iload_n 28 0 X kd_E_statusIn_27 rfl rfl rfl ?_
  refine zj_if_eq 47 31 X kd_E_statusIn_28 rfl rfl (fun _ => ?_) (fun _ => ?_)
  · refine zj_iload_n 48 2 X kd_E_statusIn_47 rfl rfl rfl ?_
    exact zj_iret X kd_E_statusIn_48
  · refine zj_iload_n 32 2 X kd_E_statusIn_31 rfl rfl rfl ?_
    refine zj_sipush 35 ((-1793)) X kd_E_statusIn_32 ks_m1793 rfl ?_
    refine zj_iand 36 X kd_E_statusIn_35 rfl ?_
    refine zj_iload_n 37 1 X kd_E_statusIn_36 rfl rfl rfl ?_
    refine zj_bipush 39 24 X kd_E_statusIn_37 kb_24 rfl ?_
    refine zj_isub 40 X kd_E_statusIn_39 rfl ?_
    refine zj_bipush 42 8 X kd_E_statusIn_40 kb_8 rfl ?_
    refine zj_ishl 43 X kd_E_statusIn_42 rfl ?_
    refine zj_ior 44 X kd_E_statusIn_43 rfl ?_
    refine zj_goto 48 X kd_E_statusIn_44 rfl ?_
    exact zj_iret X kd_E_statusIn_48
theorem j_E_statusIn_25 {P : ZP} {E : ZE} {A : Nat → Prop} (X : ZX E (zcV P) A "FrameMachine$Exceptions" b_E_statusIn 4 (some .int) 0 0) (s0 : ZS) (l0 : Int32) (l2 : Int32) : ZJ E (zcV P) A 4 (zFi E (zcV P) A) 25 [(0, .int l0), (2, .int l2)] [] s0 (f_E_statusIn_25 s0 l0 l2) := by
  unfold f_E_statusIn_25
  refine zj_iconst 26 0 X kd_E_statusIn_25 ki_0 rfl ?_
  exact j_E_statusIn_26 X s0 l0 l2 0
theorem j_E_statusIn {P : ZP} {E : ZE} {A : Nat → Prop} (X : ZX E (zcV P) A "FrameMachine$Exceptions" b_E_statusIn 4 (some .int) 0 0) (s0 : ZS) (x1 : Int32) (x2 : Int32) : ZJ E (zcV P) A 4 (zFi E (zcV P) A) 0 [(0, .int x1), (1, .int x2)] [] s0 (f_E_statusIn s0 x1 x2) := by
  unfold f_E_statusIn
  refine zj_iload_n 1 1 X kd_E_statusIn_0 rfl rfl rfl ?_
  refine zj_sipush 4 8192 X kd_E_statusIn_1 ks_8192 rfl ?_
  refine zj_ior 5 X kd_E_statusIn_4 rfl ?_
  refine zj_ldc 7 ((-32769)) X kd_E_statusIn_5 kw_505 rfl ?_
  refine zj_iand 8 X kd_E_statusIn_7 rfl ?_
  refine zj_nmi (fun v1 => ?_)
  refine zj_istore_n 9 [(2, .int v1), (0, .int x1), (1, .int x2)] X kd_E_statusIn_8 rfl (Nat.le_of_ble_eq_true rfl) rfl rfl ?_
  refine zj_iload_n 10 1 X kd_E_statusIn_9 rfl rfl rfl ?_
  refine zj_bipush 12 24 X kd_E_statusIn_10 kb_24 rfl ?_
  refine zj_icmp_le 25 15 X kd_E_statusIn_12 rfl rfl (fun _ => ?_) (fun _ => ?_)
  · refine zj_loc [1, 0] (L2 := [(0, .int x1), (2, .int v1)]) rfl ?_
    exact j_E_statusIn_25 X s0 x1 v1
  · refine zj_iload_n 16 1 X kd_E_statusIn_15 rfl rfl rfl ?_
    refine zj_bipush 18 32 X kd_E_statusIn_16 kb_32 rfl ?_
    refine zj_icmp_ge 25 21 X kd_E_statusIn_18 rfl rfl (fun _ => ?_) (fun _ => ?_)
    · refine zj_loc [1, 0] (L2 := [(0, .int x1), (2, .int v1)]) rfl ?_
      exact j_E_statusIn_25 X s0 x1 v1
    · refine zj_iconst 22 1 X kd_E_statusIn_21 ki_1 rfl ?_
      refine zj_goto 26 X kd_E_statusIn_22 rfl ?_
      refine zj_loc [1, 0] (L2 := [(0, .int x1), (2, .int v1)]) rfl ?_
      exact j_E_statusIn_26 X s0 x1 v1 1
theorem c_E_statusIn {l : Launch} {P : ZP} (hV : ZVok (zcV P)) (s0 : ZS) (x1 : Int32) (x2 : Int32) {z : Int32 × ZS} (h : f_E_statusIn s0 x1 x2 = some z) : zMi l y_E_statusIn b_E_statusIn 4 (some .int) 0 0 (zcV P) s0 [.int x1, .int x2] z :=
  zMi_of (by decide +kernel) rfl rfl (Nat.le_of_ble_eq_true rfl) hV (fun _ X => j_E_statusIn X s0 x1 x2) h
theorem kc_E_59 : zCS "FrameMachine$Exceptions" 59 y_E_statusIn b_E_statusIn 4 (some .int) 2 := ⟨⟨kw_502, kw_503, kw_6, kw_504⟩, by decide +kernel, by decide +kernel, by decide +kernel⟩
theorem mc_E_59 {ρ : Type} {E : ZE} {P : ZP} {A : Nat → Prop} {cc : ByteArray} {nL : Nat} {ret : Option FieldType} {fr lo : Nat} {F : ρ → State → Prop} {pc : Nat} {L : List (Nat × Value)} {rest : List Value} {σ : ZS} {x1 : Int32} {x2 : Int32} {K : Int32 × ZS → Option ρ} (q : Nat) (X : ZX E (zcV P) A "FrameMachine$Exceptions" cc nL ret fr lo) (d : decode cc pc = .ok (.invokestatic 59, 3)) (hfr : 0 + 1 ≤ fr) (hlo : 8 + (4 + 11) + 0 ≤ lo) (hr : (rest.map fun v => v.category).sum ≤ 8) (hq : pc + 3 = q) (kk : ∀ p : Int32 × ZS, ZJ E (zcV P) A nL F q L (.int p.1 :: rest) p.2 (K p)) : ZJ E (zcV P) A nL F pc L (.int x2 :: .int x1 :: rest) σ ((f_E_statusIn σ x1 x2).bind K) :=
  zj_cSi q (As := [.int x1, .int x2]) (rest := rest) X kc_E_59 hfr hlo (fun p h => c_E_statusIn (zx_v X) σ x1 x2 h) rfl hr d hq kk
-- FrameMachine$Pointers.push(II)V
theorem kd_Q_push_0 : decode b_Q_push 0 = .ok (.aload_n 0, 1) := by decide +kernel
theorem kd_Q_push_1 : decode b_Q_push 1 = .ok (.getfield 9, 3) := by decide +kernel
theorem kd_Q_push_4 : decode b_Q_push 4 = .ok (.getfield 31, 3) := by decide +kernel
theorem kd_Q_push_7 : decode b_Q_push 7 = .ok (.ifCond .eq 4, 3) := by decide +kernel
theorem kd_Q_push_10 : decode b_Q_push 10 = .ok (.return_, 1) := by decide +kernel
theorem kd_Q_push_11 : decode b_Q_push 11 = .ok (.aload_n 0, 1) := by decide +kernel
theorem kd_Q_push_12 : decode b_Q_push 12 = .ok (.getfield 15, 3) := by decide +kernel
theorem kd_Q_push_15 : decode b_Q_push 15 = .ok (.getfield 38, 3) := by decide +kernel
theorem kd_Q_push_18 : decode b_Q_push 18 = .ok (.bipush 7, 2) := by decide +kernel
theorem kd_Q_push_20 : decode b_Q_push 20 = .ok (.dup2, 1) := by decide +kernel
theorem kd_Q_push_21 : decode b_Q_push 21 = .ok (.iaload, 1) := by decide +kernel
theorem kd_Q_push_22 : decode b_Q_push 22 = .ok (.iconst 1, 1) := by decide +kernel
theorem kd_Q_push_23 : decode b_Q_push 23 = .ok (.iload_n 1, 1) := by decide +kernel
theorem kd_Q_push_24 : decode b_Q_push 24 = .ok (.ishl, 1) := by decide +kernel
theorem kd_Q_push_25 : decode b_Q_push 25 = .ok (.isub, 1) := by decide +kernel
theorem kd_Q_push_26 : decode b_Q_push 26 = .ok (.iastore, 1) := by decide +kernel
theorem kd_Q_push_27 : decode b_Q_push 27 = .ok (.aload_n 0, 1) := by decide +kernel
theorem kd_Q_push_28 : decode b_Q_push 28 = .ok (.getfield 9, 3) := by decide +kernel
theorem kd_Q_push_31 : decode b_Q_push 31 = .ok (.aload_n 0, 1) := by decide +kernel
theorem kd_Q_push_32 : decode b_Q_push 32 = .ok (.getfield 15, 3) := by decide +kernel
theorem kd_Q_push_35 : decode b_Q_push 35 = .ok (.getfield 38, 3) := by decide +kernel
theorem kd_Q_push_38 : decode b_Q_push 38 = .ok (.bipush 7, 2) := by decide +kernel
theorem kd_Q_push_40 : decode b_Q_push 40 = .ok (.iaload, 1) := by decide +kernel
theorem kd_Q_push_41 : decode b_Q_push 41 = .ok (.iload_n 1, 1) := by decide +kernel
theorem kd_Q_push_42 : decode b_Q_push 42 = .ok (.iload_n 2, 1) := by decide +kernel
theorem kd_Q_push_43 : decode b_Q_push 43 = .ok (.invokevirtual 42, 3) := by decide +kernel
theorem kd_Q_push_46 : decode b_Q_push 46 = .ok (.return_, 1) := by decide +kernel
noncomputable def f_Q_push (s0 : ZS) (x1 : Int32) (x2 : Int32) : Option (ZS) :=
  if (s0 0 10) = 0 then
    if (7 : Int32) < 0 ∨ 8 ≤ (7 : Int32).toNatClampNeg then none else
    if (7 : Int32) < 0 ∨ 8 ≤ (7 : Int32).toNatClampNeg then none else
    zs_nm (zs_up s0 3 (7 : Int32).toNatClampNeg ((s0 3 (7 : Int32).toNatClampNeg) - (zo_shl 1 x1))) fun s1 =>
    if (7 : Int32) < 0 ∨ 8 ≤ (7 : Int32).toNatClampNeg then none else
    (f_B_write s1 (s1 3 (7 : Int32).toNatClampNeg) x1 x2).bind fun s2 =>
    some s2
  else
    some s0
theorem j_Q_push {P : ZP} {E : ZE} {A : Nat → Prop} (X : ZX E (zcV P) A "FrameMachine$Pointers" b_Q_push 3 none 2 50) (s0 : ZS) (x1 : Int32) (x2 : Int32) : ZJ E (zcV P) A 3 (zFv E (zcV P) A) 0 [(0, .ref (P.1 4)), (1, .int x1), (2, .int x2)] [] s0 (f_Q_push s0 x1 x2) := by
  unfold f_Q_push
  refine zj_aload_n 1 0 X kd_Q_push_0 rfl rfl rfl ?_
  refine gf_Q_9 4 X kd_Q_push_1 rfl ?_
  refine gf_Q_31 7 X kd_Q_push_4 rfl ?_
  refine zj_if_eq 11 10 X kd_Q_push_7 rfl rfl (fun _ => ?_) (fun _ => ?_)
  · refine zj_aload_n 12 0 X kd_Q_push_11 rfl rfl rfl ?_
    refine gf_Q_15 15 X kd_Q_push_12 rfl ?_
    refine gf_Q_38 18 X kd_Q_push_15 rfl ?_
    refine zj_bipush 20 7 X kd_Q_push_18 kb_7 rfl ?_
    refine zj_dup2 21 X kd_Q_push_20 rfl rfl rfl ?_
    refine zj_ng (fun hg => ?_)
    refine al_C_3 22 X kd_Q_push_21 hg rfl ?_
    refine zj_iconst 23 1 X kd_Q_push_22 ki_1 rfl ?_
    refine zj_iload_n 24 1 X kd_Q_push_23 rfl rfl rfl ?_
    refine zj_ishl 25 X kd_Q_push_24 rfl ?_
    refine zj_isub 26 X kd_Q_push_25 rfl ?_
    refine zj_ng (fun hg => ?_)
    refine as_C_3 27 X kd_Q_push_26 hg rfl ?_
    refine zj_nms (fun s1 => ?_)
    refine zj_aload_n 28 0 X kd_Q_push_27 rfl rfl rfl ?_
    refine gf_Q_9 31 X kd_Q_push_28 rfl ?_
    refine zj_aload_n 32 0 X kd_Q_push_31 rfl rfl rfl ?_
    refine gf_Q_15 35 X kd_Q_push_32 rfl ?_
    refine gf_Q_38 38 X kd_Q_push_35 rfl ?_
    refine zj_bipush 40 7 X kd_Q_push_38 kb_7 rfl ?_
    refine zj_ng (fun hg => ?_)
    refine al_C_3 41 X kd_Q_push_40 hg rfl ?_
    refine zj_iload_n 42 1 X kd_Q_push_41 rfl rfl rfl ?_
    refine zj_iload_n 43 2 X kd_Q_push_42 rfl rfl rfl ?_
    refine mc_Q_42 46 X kd_Q_push_43 (Nat.le_of_ble_eq_true rfl) (Nat.le_of_ble_eq_true rfl) (Nat.le_of_ble_eq_true rfl) rfl (fun s2 => ?_)
    exact zj_vret X kd_Q_push_46
  · exact zj_vret X kd_Q_push_10
theorem c_Q_push {l : Launch} {P : ZP} (hV : ZVok (zcV P)) (s0 : ZS) (x1 : Int32) (x2 : Int32) {z : ZS} (h : f_Q_push s0 x1 x2 = some z) : zMv l y_Q_push b_Q_push 3 none 2 50 (zcV P) s0 [.ref (P.1 4), .int x1, .int x2] z :=
  zMv_of (by decide +kernel) rfl rfl (Nat.le_of_ble_eq_true rfl) hV (fun _ X => j_Q_push X s0 x1 x2) h
theorem kc_E_66 : zCV "FrameMachine$Exceptions" 66 y_Q_push b_Q_push 3 none 2 := ⟨⟨kw_507, kw_508, kw_509, kw_5, kw_510⟩, by decide +kernel, by decide +kernel, by decide +kernel⟩
theorem mc_E_66 {ρ : Type} {E : ZE} {P : ZP} {A : Nat → Prop} {cc : ByteArray} {nL : Nat} {ret : Option FieldType} {fr lo : Nat} {F : ρ → State → Prop} {pc : Nat} {L : List (Nat × Value)} {rest : List Value} {σ : ZS} {x1 : Int32} {x2 : Int32} {K : ZS → Option ρ} (q : Nat) (X : ZX E (zcV P) A "FrameMachine$Exceptions" cc nL ret fr lo) (d : decode cc pc = .ok (.invokevirtual 66, 3)) (hfr : 2 + 1 ≤ fr) (hlo : 8 + (3 + 11) + 50 ≤ lo) (hr : (rest.map fun v => v.category).sum ≤ 8) (hq : pc + 3 = q) (kk : ∀ p : ZS, ZJ E (zcV P) A nL F q L (rest) p (K p)) : ZJ E (zcV P) A nL F pc L (.int x2 :: .int x1 :: .ref (P.1 4) :: rest) σ ((f_Q_push σ x1 x2).bind K) :=
  zj_cVv q 4 4 (As := [.int x1, .int x2]) (rest := rest) X kc_E_66 hfr hlo (fun p h => c_Q_push (zx_v X) σ x1 x2 h) rfl rfl rfl hr d hq kk
theorem kc_P_264 : zCV "FrameMachine$Processor" 264 y_Q_push b_Q_push 3 none 2 := ⟨⟨kw_703, kw_508, kw_509, kw_5, kw_510⟩, by decide +kernel, by decide +kernel, by decide +kernel⟩
theorem mc_P_264 {ρ : Type} {E : ZE} {P : ZP} {A : Nat → Prop} {cc : ByteArray} {nL : Nat} {ret : Option FieldType} {fr lo : Nat} {F : ρ → State → Prop} {pc : Nat} {L : List (Nat × Value)} {rest : List Value} {σ : ZS} {x1 : Int32} {x2 : Int32} {K : ZS → Option ρ} (q : Nat) (X : ZX E (zcV P) A "FrameMachine$Processor" cc nL ret fr lo) (d : decode cc pc = .ok (.invokevirtual 264, 3)) (hfr : 2 + 1 ≤ fr) (hlo : 8 + (3 + 11) + 50 ≤ lo) (hr : (rest.map fun v => v.category).sum ≤ 8) (hq : pc + 3 = q) (kk : ∀ p : ZS, ZJ E (zcV P) A nL F q L (rest) p (K p)) : ZJ E (zcV P) A nL F pc L (.int x2 :: .int x1 :: .ref (P.1 4) :: rest) σ ((f_Q_push σ x1 x2).bind K) :=
  zj_cVv q 4 4 (As := [.int x1, .int x2]) (rest := rest) X kc_P_264 hfr hlo (fun p h => c_Q_push (zx_v X) σ x1 x2 h) rfl rfl rfl hr d hq kk
-- FrameMachine$Exceptions.isOfAccess(I)Z
theorem kd_E_isOfAccess_0 : decode b_E_isOfAccess 0 = .ok (.iload_n 0, 1) := by decide +kernel
theorem kd_E_isOfAccess_1 : decode b_E_isOfAccess 1 = .ok (.iconst 2, 1) := by decide +kernel
theorem kd_E_isOfAccess_2 : decode b_E_isOfAccess 2 = .ok (.if_icmp .eq 8, 3) := by decide +kernel
theorem kd_E_isOfAccess_5 : decode b_E_isOfAccess 5 = .ok (.iload_n 0, 1) := by decide +kernel
theorem kd_E_isOfAccess_6 : decode b_E_isOfAccess 6 = .ok (.iconst 3, 1) := by decide +kernel
theorem kd_E_isOfAccess_7 : decode b_E_isOfAccess 7 = .ok (.if_icmp .ne 7, 3) := by decide +kernel
theorem kd_E_isOfAccess_10 : decode b_E_isOfAccess 10 = .ok (.iconst 1, 1) := by decide +kernel
theorem kd_E_isOfAccess_11 : decode b_E_isOfAccess 11 = .ok (.goto 4, 3) := by decide +kernel
theorem kd_E_isOfAccess_14 : decode b_E_isOfAccess 14 = .ok (.iconst 0, 1) := by decide +kernel
theorem kd_E_isOfAccess_15 : decode b_E_isOfAccess 15 = .ok (.ireturn, 1) := by decide +kernel
noncomputable def f_E_isOfAccess_10 (s0 : ZS)  : Option (Int32 × ZS) :=
  some (1, s0)
noncomputable def f_E_isOfAccess (s0 : ZS) (x1 : Int32) : Option (Int32 × ZS) :=
  if x1 = 2 then
    f_E_isOfAccess_10 s0
  else
    if x1 = 3 then
      f_E_isOfAccess_10 s0
    else
      some (0, s0)
theorem j_E_isOfAccess_10 {P : ZP} {E : ZE} {A : Nat → Prop} (X : ZX E (zcV P) A "FrameMachine$Exceptions" b_E_isOfAccess 1 (some .boolean) 0 0) (s0 : ZS)  : ZJ E (zcV P) A 1 (zFi E (zcV P) A) 10 [] [] s0 (f_E_isOfAccess_10 s0) := by
  unfold f_E_isOfAccess_10
  refine zj_iconst 11 1 X kd_E_isOfAccess_10 ki_1 rfl ?_
  refine zj_goto 15 X kd_E_isOfAccess_11 rfl ?_
  exact zj_zret X kd_E_isOfAccess_15 (Or.inr rfl)
theorem j_E_isOfAccess {P : ZP} {E : ZE} {A : Nat → Prop} (X : ZX E (zcV P) A "FrameMachine$Exceptions" b_E_isOfAccess 1 (some .boolean) 0 0) (s0 : ZS) (x1 : Int32) : ZJ E (zcV P) A 1 (zFi E (zcV P) A) 0 [(0, .int x1)] [] s0 (f_E_isOfAccess s0 x1) := by
  unfold f_E_isOfAccess
  refine zj_iload_n 1 0 X kd_E_isOfAccess_0 rfl rfl rfl ?_
  refine zj_iconst 2 2 X kd_E_isOfAccess_1 ki_2 rfl ?_
  refine zj_icmp_eq 10 5 X kd_E_isOfAccess_2 rfl rfl (fun _ => ?_) (fun _ => ?_)
  · refine zj_loc [] (L2 := []) rfl ?_
    exact j_E_isOfAccess_10 X s0
  · refine zj_iload_n 6 0 X kd_E_isOfAccess_5 rfl rfl rfl ?_
    refine zj_iconst 7 3 X kd_E_isOfAccess_6 ki_3 rfl ?_
    refine zj_icmp_ne 14 10 X kd_E_isOfAccess_7 rfl rfl (fun _ => ?_) (fun _ => ?_)
    · refine zj_loc [] (L2 := []) rfl ?_
      exact j_E_isOfAccess_10 X s0
    · refine zj_iconst 15 0 X kd_E_isOfAccess_14 ki_0 rfl ?_
      exact zj_zret X kd_E_isOfAccess_15 (Or.inl rfl)
theorem c_E_isOfAccess {l : Launch} {P : ZP} (hV : ZVok (zcV P)) (s0 : ZS) (x1 : Int32) {z : Int32 × ZS} (h : f_E_isOfAccess s0 x1 = some z) : zMi l y_E_isOfAccess b_E_isOfAccess 1 (some .boolean) 0 0 (zcV P) s0 [.int x1] z :=
  zMi_of (by decide +kernel) rfl rfl (Nat.le_of_ble_eq_true rfl) hV (fun _ X => j_E_isOfAccess X s0 x1) h
theorem kc_E_33 : zCS "FrameMachine$Exceptions" 33 y_E_isOfAccess b_E_isOfAccess 1 (some .boolean) 1 := ⟨⟨kw_512, kw_513, kw_6, kw_514⟩, by decide +kernel, by decide +kernel, by decide +kernel⟩
theorem mc_E_33 {ρ : Type} {E : ZE} {P : ZP} {A : Nat → Prop} {cc : ByteArray} {nL : Nat} {ret : Option FieldType} {fr lo : Nat} {F : ρ → State → Prop} {pc : Nat} {L : List (Nat × Value)} {rest : List Value} {σ : ZS} {x1 : Int32} {K : Int32 × ZS → Option ρ} (q : Nat) (X : ZX E (zcV P) A "FrameMachine$Exceptions" cc nL ret fr lo) (d : decode cc pc = .ok (.invokestatic 33, 3)) (hfr : 0 + 1 ≤ fr) (hlo : 8 + (1 + 11) + 0 ≤ lo) (hr : (rest.map fun v => v.category).sum ≤ 8) (hq : pc + 3 = q) (kk : ∀ p : Int32 × ZS, ZJ E (zcV P) A nL F q L (.int p.1 :: rest) p.2 (K p)) : ZJ E (zcV P) A nL F pc L (.int x1 :: rest) σ ((f_E_isOfAccess σ x1).bind K) :=
  zj_cSi q (As := [.int x1]) (rest := rest) X kc_E_33 hfr hlo (fun p h => c_E_isOfAccess (zx_v X) σ x1 h) rfl hr d hq kk
-- FrameMachine$Exceptions.enter(III)V
theorem kd_E_enter_0 : decode b_E_enter 0 = .ok (.aload_n 0, 1) := by decide +kernel
theorem kd_E_enter_1 : decode b_E_enter 1 = .ok (.getfield 9, 3) := by decide +kernel
theorem kd_E_enter_4 : decode b_E_enter 4 = .ok (.getfield 50, 3) := by decide +kernel
theorem kd_E_enter_7 : decode b_E_enter 7 = .ok (.istore 4, 2) := by decide +kernel
theorem kd_E_enter_9 : decode b_E_enter 9 = .ok (.aload_n 0, 1) := by decide +kernel
theorem kd_E_enter_10 : decode b_E_enter 10 = .ok (.getfield 9, 3) := by decide +kernel
theorem kd_E_enter_13 : decode b_E_enter 13 = .ok (.getfield 53, 3) := by decide +kernel
theorem kd_E_enter_16 : decode b_E_enter 16 = .ok (.ifCond .eq 7, 3) := by decide +kernel
theorem kd_E_enter_19 : decode b_E_enter 19 = .ok (.iconst 1, 1) := by decide +kernel
theorem kd_E_enter_20 : decode b_E_enter 20 = .ok (.goto 4, 3) := by decide +kernel
theorem kd_E_enter_23 : decode b_E_enter 23 = .ok (.iconst 0, 1) := by decide +kernel
theorem kd_E_enter_24 : decode b_E_enter 24 = .ok (.istore 5, 2) := by decide +kernel
theorem kd_E_enter_26 : decode b_E_enter 26 = .ok (.aload_n 0, 1) := by decide +kernel
theorem kd_E_enter_27 : decode b_E_enter 27 = .ok (.getfield 15, 3) := by decide +kernel
theorem kd_E_enter_30 : decode b_E_enter 30 = .ok (.getfield 56, 3) := by decide +kernel
theorem kd_E_enter_33 : decode b_E_enter 33 = .ok (.istore 6, 2) := by decide +kernel
theorem kd_E_enter_35 : decode b_E_enter 35 = .ok (.aload_n 0, 1) := by decide +kernel
theorem kd_E_enter_36 : decode b_E_enter 36 = .ok (.getfield 9, 3) := by decide +kernel
theorem kd_E_enter_39 : decode b_E_enter 39 = .ok (.iconst 0, 1) := by decide +kernel
theorem kd_E_enter_40 : decode b_E_enter 40 = .ok (.putfield 27, 3) := by decide +kernel
theorem kd_E_enter_43 : decode b_E_enter 43 = .ok (.aload_n 0, 1) := by decide +kernel
theorem kd_E_enter_44 : decode b_E_enter 44 = .ok (.iload_n 1, 1) := by decide +kernel
theorem kd_E_enter_45 : decode b_E_enter 45 = .ok (.invokevirtual 42, 3) := by decide +kernel
theorem kd_E_enter_48 : decode b_E_enter 48 = .ok (.aload_n 0, 1) := by decide +kernel
theorem kd_E_enter_49 : decode b_E_enter 49 = .ok (.getfield 15, 3) := by decide +kernel
theorem kd_E_enter_52 : decode b_E_enter 52 = .ok (.iload_n 1, 1) := by decide +kernel
theorem kd_E_enter_53 : decode b_E_enter 53 = .ok (.iload 6, 2) := by decide +kernel
theorem kd_E_enter_55 : decode b_E_enter 55 = .ok (.invokestatic 59, 3) := by decide +kernel
theorem kd_E_enter_58 : decode b_E_enter 58 = .ok (.invokevirtual 63, 3) := by decide +kernel
theorem kd_E_enter_61 : decode b_E_enter 61 = .ok (.aload_n 0, 1) := by decide +kernel
theorem kd_E_enter_62 : decode b_E_enter 62 = .ok (.getfield 19, 3) := by decide +kernel
theorem kd_E_enter_65 : decode b_E_enter 65 = .ok (.iconst 2, 1) := by decide +kernel
theorem kd_E_enter_66 : decode b_E_enter 66 = .ok (.iload_n 2, 1) := by decide +kernel
theorem kd_E_enter_67 : decode b_E_enter 67 = .ok (.invokevirtual 66, 3) := by decide +kernel
theorem kd_E_enter_70 : decode b_E_enter 70 = .ok (.aload_n 0, 1) := by decide +kernel
theorem kd_E_enter_71 : decode b_E_enter 71 = .ok (.getfield 19, 3) := by decide +kernel
theorem kd_E_enter_74 : decode b_E_enter 74 = .ok (.iconst 1, 1) := by decide +kernel
theorem kd_E_enter_75 : decode b_E_enter 75 = .ok (.iload 6, 2) := by decide +kernel
theorem kd_E_enter_77 : decode b_E_enter 77 = .ok (.invokevirtual 66, 3) := by decide +kernel
theorem kd_E_enter_80 : decode b_E_enter 80 = .ok (.iload_n 1, 1) := by decide +kernel
theorem kd_E_enter_81 : decode b_E_enter 81 = .ok (.invokestatic 33, 3) := by decide +kernel
theorem kd_E_enter_84 : decode b_E_enter 84 = .ok (.ifCond .eq 32, 3) := by decide +kernel
theorem kd_E_enter_87 : decode b_E_enter 87 = .ok (.aload_n 0, 1) := by decide +kernel
theorem kd_E_enter_88 : decode b_E_enter 88 = .ok (.getfield 19, 3) := by decide +kernel
theorem kd_E_enter_91 : decode b_E_enter 91 = .ok (.iconst 1, 1) := by decide +kernel
theorem kd_E_enter_92 : decode b_E_enter 92 = .ok (.iload_n 3, 1) := by decide +kernel
theorem kd_E_enter_93 : decode b_E_enter 93 = .ok (.invokevirtual 66, 3) := by decide +kernel
theorem kd_E_enter_96 : decode b_E_enter 96 = .ok (.aload_n 0, 1) := by decide +kernel
theorem kd_E_enter_97 : decode b_E_enter 97 = .ok (.getfield 19, 3) := by decide +kernel
theorem kd_E_enter_100 : decode b_E_enter 100 = .ok (.iconst 2, 1) := by decide +kernel
theorem kd_E_enter_101 : decode b_E_enter 101 = .ok (.iload 4, 2) := by decide +kernel
theorem kd_E_enter_103 : decode b_E_enter 103 = .ok (.invokevirtual 66, 3) := by decide +kernel
theorem kd_E_enter_106 : decode b_E_enter 106 = .ok (.aload_n 0, 1) := by decide +kernel
theorem kd_E_enter_107 : decode b_E_enter 107 = .ok (.getfield 19, 3) := by decide +kernel
theorem kd_E_enter_110 : decode b_E_enter 110 = .ok (.iconst 1, 1) := by decide +kernel
theorem kd_E_enter_111 : decode b_E_enter 111 = .ok (.iload 5, 2) := by decide +kernel
theorem kd_E_enter_113 : decode b_E_enter 113 = .ok (.invokevirtual 66, 3) := by decide +kernel
theorem kd_E_enter_116 : decode b_E_enter 116 = .ok (.aload_n 0, 1) := by decide +kernel
theorem kd_E_enter_117 : decode b_E_enter 117 = .ok (.getfield 9, 3) := by decide +kernel
theorem kd_E_enter_120 : decode b_E_enter 120 = .ok (.getfield 27, 3) := by decide +kernel
theorem kd_E_enter_123 : decode b_E_enter 123 = .ok (.ifCond .ne 21, 3) := by decide +kernel
theorem kd_E_enter_126 : decode b_E_enter 126 = .ok (.aload_n 0, 1) := by decide +kernel
theorem kd_E_enter_127 : decode b_E_enter 127 = .ok (.getfield 15, 3) := by decide +kernel
theorem kd_E_enter_130 : decode b_E_enter 130 = .ok (.aload_n 0, 1) := by decide +kernel
theorem kd_E_enter_131 : decode b_E_enter 131 = .ok (.getfield 9, 3) := by decide +kernel
theorem kd_E_enter_134 : decode b_E_enter 134 = .ok (.iconst 4, 1) := by decide +kernel
theorem kd_E_enter_135 : decode b_E_enter 135 = .ok (.iload_n 1, 1) := by decide +kernel
theorem kd_E_enter_136 : decode b_E_enter 136 = .ok (.imul, 1) := by decide +kernel
theorem kd_E_enter_137 : decode b_E_enter 137 = .ok (.iconst 2, 1) := by decide +kernel
theorem kd_E_enter_138 : decode b_E_enter 138 = .ok (.invokevirtual 72, 3) := by decide +kernel
theorem kd_E_enter_141 : decode b_E_enter 141 = .ok (.putfield 37, 3) := by decide +kernel
theorem kd_E_enter_144 : decode b_E_enter 144 = .ok (.return_, 1) := by decide +kernel
noncomputable def f_E_enter_116 (s0 : ZS) (l1 : Int32) : Option (ZS) :=
  if (s0 0 10) = 0 then
    (f_B_read s0 (4 * l1) 2).bind fun p10 =>
    zs_nm (zs_up p10.2 0 14 p10.1) fun s11 =>
    some s11
  else
    some s0
noncomputable def f_E_enter_24 (s0 : ZS) (l1 : Int32) (l2 : Int32) (l3 : Int32) (l4 : Int32) (t0 : Int32) : Option (ZS) :=
  zs_nm (s0 0 15) fun v2 =>
  zs_nm (zs_up s0 0 10 0) fun s3 =>
  (f_E_note s3 l1).bind fun s4 =>
  (f_E_statusIn s4 l1 v2).bind fun p5 =>
  (f_G_changeStatus p5.2 p5.1).bind fun s6 =>
  (f_Q_push s6 2 l2).bind fun s7 =>
  (f_Q_push s7 1 v2).bind fun s8 =>
  (f_E_isOfAccess s8 l1).bind fun p9 =>
  if p9.1 = 0 then
    f_E_enter_116 p9.2 l1
  else
    (f_Q_push p9.2 1 l3).bind fun s12 =>
    (f_Q_push s12 2 l4).bind fun s13 =>
    (f_Q_push s13 1 t0).bind fun s14 =>
    f_E_enter_116 s14 l1
noncomputable def f_E_enter (s0 : ZS) (x1 : Int32) (x2 : Int32) (x3 : Int32) : Option (ZS) :=
  zs_nm (s0 0 11) fun v1 =>
  if (s0 0 12) = 0 then
    f_E_enter_24 s0 x1 x2 x3 v1 0
  else
    f_E_enter_24 s0 x1 x2 x3 v1 1
theorem j_E_enter_116 {P : ZP} {E : ZE} {A : Nat → Prop} (X : ZX E (zcV P) A "FrameMachine$Exceptions" b_E_enter 7 none 3 72) (s0 : ZS) (l1 : Int32) : ZJ E (zcV P) A 7 (zFv E (zcV P) A) 116 [(0, .ref (P.1 5)), (1, .int l1)] [] s0 (f_E_enter_116 s0 l1) := by
  unfold f_E_enter_116
  refine zj_aload_n 117 0 X kd_E_enter_116 rfl rfl rfl ?_
  refine gf_E_9 120 X kd_E_enter_117 rfl ?_
  refine gf_E_27 123 X kd_E_enter_120 rfl ?_
  refine zj_if_ne 144 126 X kd_E_enter_123 rfl rfl (fun _ => ?_) (fun _ => ?_)
  · refine zj_aload_n 127 0 X kd_E_enter_126 rfl rfl rfl ?_
    refine gf_E_15 130 X kd_E_enter_127 rfl ?_
    refine zj_aload_n 131 0 X kd_E_enter_130 rfl rfl rfl ?_
    refine gf_E_9 134 X kd_E_enter_131 rfl ?_
    refine zj_iconst 135 4 X kd_E_enter_134 ki_4 rfl ?_
    refine zj_iload_n 136 1 X kd_E_enter_135 rfl rfl rfl ?_
    refine zj_imul 137 X kd_E_enter_136 rfl ?_
    refine zj_iconst 138 2 X kd_E_enter_137 ki_2 rfl ?_
    refine mc_E_72 141 X kd_E_enter_138 (Nat.le_of_ble_eq_true rfl) (Nat.le_of_ble_eq_true rfl) (Nat.le_of_ble_eq_true rfl) rfl (fun p10 => ?_)
    refine pf_E_37 144 X kd_E_enter_141 rfl ?_
    refine zj_nms (fun s11 => ?_)
    exact zj_vret X kd_E_enter_144
  · exact zj_vret X kd_E_enter_144
theorem j_E_enter_24 {P : ZP} {E : ZE} {A : Nat → Prop} (X : ZX E (zcV P) A "FrameMachine$Exceptions" b_E_enter 7 none 3 72) (s0 : ZS) (l1 : Int32) (l2 : Int32) (l3 : Int32) (l4 : Int32) (t0 : Int32) : ZJ E (zcV P) A 7 (zFv E (zcV P) A) 24 [(0, .ref (P.1 5)), (1, .int l1), (2, .int l2), (3, .int l3), (4, .int l4)] [.int t0] s0 (f_E_enter_24 s0 l1 l2 l3 l4 t0) := by
  unfold f_E_enter_24
  refine zj_istore 26 [(5, .int t0), (0, .ref (P.1 5)), (1, .int l1), (2, .int l2), (3, .int l3), (4, .int l4)] X kd_E_enter_24 (Nat.le_of_ble_eq_true rfl) rfl rfl ?_
  refine zj_aload_n 27 1 X kd_E_enter_26 rfl rfl rfl ?_
  refine gf_E_15 30 X kd_E_enter_27 rfl ?_
  refine gf_E_56 33 X kd_E_enter_30 rfl ?_
  refine zj_nmi (fun v2 => ?_)
  refine zj_istore 35 [(6, .int v2), (5, .int t0), (0, .ref (P.1 5)), (1, .int l1), (2, .int l2), (3, .int l3), (4, .int l4)] X kd_E_enter_33 (Nat.le_of_ble_eq_true rfl) rfl rfl ?_
  refine zj_aload_n 36 2 X kd_E_enter_35 rfl rfl rfl ?_
  refine gf_E_9 39 X kd_E_enter_36 rfl ?_
  refine zj_iconst 40 0 X kd_E_enter_39 ki_0 rfl ?_
  refine pf_E_27 43 X kd_E_enter_40 rfl ?_
  refine zj_nms (fun s3 => ?_)
  refine zj_aload_n 44 2 X kd_E_enter_43 rfl rfl rfl ?_
  refine zj_iload_n 45 3 X kd_E_enter_44 rfl rfl rfl ?_
  refine mc_E_42 48 X kd_E_enter_45 (Nat.le_of_ble_eq_true rfl) (Nat.le_of_ble_eq_true rfl) (Nat.le_of_ble_eq_true rfl) rfl (fun s4 => ?_)
  refine zj_aload_n 49 2 X kd_E_enter_48 rfl rfl rfl ?_
  refine gf_E_15 52 X kd_E_enter_49 rfl ?_
  refine zj_iload_n 53 3 X kd_E_enter_52 rfl rfl rfl ?_
  refine zj_iload 55 0 X kd_E_enter_53 rfl rfl ?_
  refine mc_E_59 58 X kd_E_enter_55 (Nat.le_of_ble_eq_true rfl) (Nat.le_of_ble_eq_true rfl) (Nat.le_of_ble_eq_true rfl) rfl (fun p5 => ?_)
  refine mc_E_63 61 X kd_E_enter_58 (Nat.le_of_ble_eq_true rfl) (Nat.le_of_ble_eq_true rfl) (Nat.le_of_ble_eq_true rfl) rfl (fun s6 => ?_)
  refine zj_aload_n 62 2 X kd_E_enter_61 rfl rfl rfl ?_
  refine gf_E_19 65 X kd_E_enter_62 rfl ?_
  refine zj_iconst 66 2 X kd_E_enter_65 ki_2 rfl ?_
  refine zj_iload_n 67 4 X kd_E_enter_66 rfl rfl rfl ?_
  refine mc_E_66 70 X kd_E_enter_67 (Nat.le_of_ble_eq_true rfl) (Nat.le_of_ble_eq_true rfl) (Nat.le_of_ble_eq_true rfl) rfl (fun s7 => ?_)
  refine zj_aload_n 71 2 X kd_E_enter_70 rfl rfl rfl ?_
  refine gf_E_19 74 X kd_E_enter_71 rfl ?_
  refine zj_iconst 75 1 X kd_E_enter_74 ki_1 rfl ?_
  refine zj_iload 77 0 X kd_E_enter_75 rfl rfl ?_
  refine mc_E_66 80 X kd_E_enter_77 (Nat.le_of_ble_eq_true rfl) (Nat.le_of_ble_eq_true rfl) (Nat.le_of_ble_eq_true rfl) rfl (fun s8 => ?_)
  refine zj_iload_n 81 3 X kd_E_enter_80 rfl rfl rfl ?_
  refine mc_E_33 84 X kd_E_enter_81 (Nat.le_of_ble_eq_true rfl) (Nat.le_of_ble_eq_true rfl) (Nat.le_of_ble_eq_true rfl) rfl (fun p9 => ?_)
  refine zj_if_eq 116 87 X kd_E_enter_84 rfl rfl (fun _ => ?_) (fun _ => ?_)
  · refine zj_loc [2, 3] (L2 := [(0, .ref (P.1 5)), (1, .int l1)]) rfl ?_
    exact j_E_enter_116 X p9.2 l1
  · refine zj_aload_n 88 2 X kd_E_enter_87 rfl rfl rfl ?_
    refine gf_E_19 91 X kd_E_enter_88 rfl ?_
    refine zj_iconst 92 1 X kd_E_enter_91 ki_1 rfl ?_
    refine zj_iload_n 93 5 X kd_E_enter_92 rfl rfl rfl ?_
    refine mc_E_66 96 X kd_E_enter_93 (Nat.le_of_ble_eq_true rfl) (Nat.le_of_ble_eq_true rfl) (Nat.le_of_ble_eq_true rfl) rfl (fun s12 => ?_)
    refine zj_aload_n 97 2 X kd_E_enter_96 rfl rfl rfl ?_
    refine gf_E_19 100 X kd_E_enter_97 rfl ?_
    refine zj_iconst 101 2 X kd_E_enter_100 ki_2 rfl ?_
    refine zj_iload 103 6 X kd_E_enter_101 rfl rfl ?_
    refine mc_E_66 106 X kd_E_enter_103 (Nat.le_of_ble_eq_true rfl) (Nat.le_of_ble_eq_true rfl) (Nat.le_of_ble_eq_true rfl) rfl (fun s13 => ?_)
    refine zj_aload_n 107 2 X kd_E_enter_106 rfl rfl rfl ?_
    refine gf_E_19 110 X kd_E_enter_107 rfl ?_
    refine zj_iconst 111 1 X kd_E_enter_110 ki_1 rfl ?_
    refine zj_iload 113 1 X kd_E_enter_111 rfl rfl ?_
    refine mc_E_66 116 X kd_E_enter_113 (Nat.le_of_ble_eq_true rfl) (Nat.le_of_ble_eq_true rfl) (Nat.le_of_ble_eq_true rfl) rfl (fun s14 => ?_)
    refine zj_loc [2, 3] (L2 := [(0, .ref (P.1 5)), (1, .int l1)]) rfl ?_
    exact j_E_enter_116 X s14 l1
theorem j_E_enter {P : ZP} {E : ZE} {A : Nat → Prop} (X : ZX E (zcV P) A "FrameMachine$Exceptions" b_E_enter 7 none 3 72) (s0 : ZS) (x1 : Int32) (x2 : Int32) (x3 : Int32) : ZJ E (zcV P) A 7 (zFv E (zcV P) A) 0 [(0, .ref (P.1 5)), (1, .int x1), (2, .int x2), (3, .int x3)] [] s0 (f_E_enter s0 x1 x2 x3) := by
  unfold f_E_enter
  refine zj_aload_n 1 0 X kd_E_enter_0 rfl rfl rfl ?_
  refine gf_E_9 4 X kd_E_enter_1 rfl ?_
  refine gf_E_50 7 X kd_E_enter_4 rfl ?_
  refine zj_nmi (fun v1 => ?_)
  refine zj_istore 9 [(4, .int v1), (0, .ref (P.1 5)), (1, .int x1), (2, .int x2), (3, .int x3)] X kd_E_enter_7 (Nat.le_of_ble_eq_true rfl) rfl rfl ?_
  refine zj_aload_n 10 1 X kd_E_enter_9 rfl rfl rfl ?_
  refine gf_E_9 13 X kd_E_enter_10 rfl ?_
  refine gf_E_53 16 X kd_E_enter_13 rfl ?_
  refine zj_if_eq 23 19 X kd_E_enter_16 rfl rfl (fun _ => ?_) (fun _ => ?_)
  · refine zj_iconst 24 0 X kd_E_enter_23 ki_0 rfl ?_
    refine zj_loc [1, 2, 3, 4, 0] (L2 := [(0, .ref (P.1 5)), (1, .int x1), (2, .int x2), (3, .int x3), (4, .int v1)]) rfl ?_
    exact j_E_enter_24 X s0 x1 x2 x3 v1 0
  · refine zj_iconst 20 1 X kd_E_enter_19 ki_1 rfl ?_
    refine zj_goto 24 X kd_E_enter_20 rfl ?_
    refine zj_loc [1, 2, 3, 4, 0] (L2 := [(0, .ref (P.1 5)), (1, .int x1), (2, .int x2), (3, .int x3), (4, .int v1)]) rfl ?_
    exact j_E_enter_24 X s0 x1 x2 x3 v1 1
theorem c_E_enter {l : Launch} {P : ZP} (hV : ZVok (zcV P)) (s0 : ZS) (x1 : Int32) (x2 : Int32) (x3 : Int32) {z : ZS} (h : f_E_enter s0 x1 x2 x3 = some z) : zMv l y_E_enter b_E_enter 7 none 3 72 (zcV P) s0 [.ref (P.1 5), .int x1, .int x2, .int x3] z :=
  zMv_of (by decide +kernel) rfl rfl (Nat.le_of_ble_eq_true rfl) hV (fun _ X => j_E_enter X s0 x1 x2 x3) h
theorem kc_E_23 : zCV "FrameMachine$Exceptions" 23 y_E_enter b_E_enter 7 none 3 := ⟨⟨kw_494, kw_496, ksel_4, kw_6, kw_497⟩, by decide +kernel, by decide +kernel, by decide +kernel⟩
theorem mc_E_23 {ρ : Type} {E : ZE} {P : ZP} {A : Nat → Prop} {cc : ByteArray} {nL : Nat} {ret : Option FieldType} {fr lo : Nat} {F : ρ → State → Prop} {pc : Nat} {L : List (Nat × Value)} {rest : List Value} {σ : ZS} {x1 : Int32} {x2 : Int32} {x3 : Int32} {K : ZS → Option ρ} (q : Nat) (X : ZX E (zcV P) A "FrameMachine$Exceptions" cc nL ret fr lo) (d : decode cc pc = .ok (.invokevirtual 23, 3)) (hfr : 3 + 1 ≤ fr) (hlo : 8 + (7 + 11) + 72 ≤ lo) (hr : (rest.map fun v => v.category).sum ≤ 8) (hq : pc + 3 = q) (kk : ∀ p : ZS, ZJ E (zcV P) A nL F q L (rest) p (K p)) : ZJ E (zcV P) A nL F pc L (.int x3 :: .int x2 :: .int x1 :: .ref (P.1 5) :: rest) σ ((f_E_enter σ x1 x2 x3).bind K) :=
  zj_cVv q 5 5 (As := [.int x1, .int x2, .int x3]) (rest := rest) X kc_E_23 hfr hlo (fun p h => c_E_enter (zx_v X) σ x1 x2 x3 h) rfl rfl rfl hr d hq kk
