-- FrameMachineModel.places(II)Z
theorem kd_M_places_0 : decode b_M_places 0 = .ok (.iload_n 0, 1) := by decide +kernel
theorem kd_M_places_1 : decode b_M_places 1 = .ok (.iconst 2, 1) := by decide +kernel
theorem kd_M_places_2 : decode b_M_places 2 = .ok (.if_icmp .eq 24, 3) := by decide +kernel
theorem kd_M_places_5 : decode b_M_places 5 = .ok (.iload_n 0, 1) := by decide +kernel
theorem kd_M_places_6 : decode b_M_places 6 = .ok (.iconst 5, 1) := by decide +kernel
theorem kd_M_places_7 : decode b_M_places 7 = .ok (.if_icmp .eq 19, 3) := by decide +kernel
theorem kd_M_places_10 : decode b_M_places 10 = .ok (.iload_n 0, 1) := by decide +kernel
theorem kd_M_places_11 : decode b_M_places 11 = .ok (.bipush 6, 2) := by decide +kernel
theorem kd_M_places_13 : decode b_M_places 13 = .ok (.if_icmp .ne 17, 3) := by decide +kernel
theorem kd_M_places_16 : decode b_M_places 16 = .ok (.iload_n 1, 1) := by decide +kernel
theorem kd_M_places_17 : decode b_M_places 17 = .ok (.iconst 2, 1) := by decide +kernel
theorem kd_M_places_18 : decode b_M_places 18 = .ok (.if_icmp .lt 8, 3) := by decide +kernel
theorem kd_M_places_21 : decode b_M_places 21 = .ok (.iload_n 1, 1) := by decide +kernel
theorem kd_M_places_22 : decode b_M_places 22 = .ok (.iconst 3, 1) := by decide +kernel
theorem kd_M_places_23 : decode b_M_places 23 = .ok (.if_icmp .ne 7, 3) := by decide +kernel
theorem kd_M_places_26 : decode b_M_places 26 = .ok (.iconst 1, 1) := by decide +kernel
theorem kd_M_places_27 : decode b_M_places 27 = .ok (.goto 4, 3) := by decide +kernel
theorem kd_M_places_30 : decode b_M_places 30 = .ok (.iconst 0, 1) := by decide +kernel
theorem kd_M_places_31 : decode b_M_places 31 = .ok (.ireturn, 1) := by decide +kernel
noncomputable def f_M_places_26 (s0 : ZS)  : Option (Int32 × ZS) :=
  some (1, s0)
noncomputable def f_M_places (s0 : ZS) (x1 : Int32) (x2 : Int32) : Option (Int32 × ZS) :=
  if x1 = 2 then
    f_M_places_26 s0
  else
    if x1 = 5 then
      f_M_places_26 s0
    else
      if x1 = 6 then
        if x2 < 2 then
          f_M_places_26 s0
        else
          if x2 = 3 then
            f_M_places_26 s0
          else
            some (0, s0)
      else
        some (0, s0)
theorem j_M_places_26 {P : ZP} {E : ZE} {A : Nat → Prop} (X : ZX E (zmV P) A "FrameMachineModel" b_M_places 2 (some .boolean) 0 0) (s0 : ZS)  : ZJ E (zmV P) A 2 (zFi E (zmV P) A) 26 [] [] s0 (f_M_places_26 s0) := by
  unfold f_M_places_26
  refine zj_iconst 27 1 X kd_M_places_26 ki_1 rfl ?_
  refine zj_goto 31 X kd_M_places_27 rfl ?_
  exact zj_zret X kd_M_places_31 (Or.inr rfl)
theorem j_M_places {P : ZP} {E : ZE} {A : Nat → Prop} (X : ZX E (zmV P) A "FrameMachineModel" b_M_places 2 (some .boolean) 0 0) (s0 : ZS) (x1 : Int32) (x2 : Int32) : ZJ E (zmV P) A 2 (zFi E (zmV P) A) 0 [(0, .int x1), (1, .int x2)] [] s0 (f_M_places s0 x1 x2) := by
  unfold f_M_places
  refine zj_iload_n 1 0 X kd_M_places_0 rfl rfl rfl ?_
  refine zj_iconst 2 2 X kd_M_places_1 ki_2 rfl ?_
  refine zj_icmp_eq 26 5 X kd_M_places_2 rfl rfl (fun _ => ?_) (fun _ => ?_)
  · refine zj_loc [] (L2 := []) rfl ?_
    exact j_M_places_26 X s0
  · refine zj_iload_n 6 0 X kd_M_places_5 rfl rfl rfl ?_
    refine zj_iconst 7 5 X kd_M_places_6 ki_5 rfl ?_
    refine zj_icmp_eq 26 10 X kd_M_places_7 rfl rfl (fun _ => ?_) (fun _ => ?_)
    · refine zj_loc [] (L2 := []) rfl ?_
      exact j_M_places_26 X s0
    · refine zj_iload_n 11 0 X kd_M_places_10 rfl rfl rfl ?_
      refine zj_bipush 13 6 X kd_M_places_11 kb_6 rfl ?_
      refine zj_icmp_ne 30 16 X kd_M_places_13 rfl rfl (fun _ => ?_) (fun _ => ?_)
      · refine zj_iload_n 17 1 X kd_M_places_16 rfl rfl rfl ?_
        refine zj_iconst 18 2 X kd_M_places_17 ki_2 rfl ?_
        refine zj_icmp_lt 26 21 X kd_M_places_18 rfl rfl (fun _ => ?_) (fun _ => ?_)
        · refine zj_loc [] (L2 := []) rfl ?_
          exact j_M_places_26 X s0
        · refine zj_iload_n 22 1 X kd_M_places_21 rfl rfl rfl ?_
          refine zj_iconst 23 3 X kd_M_places_22 ki_3 rfl ?_
          refine zj_icmp_ne 30 26 X kd_M_places_23 rfl rfl (fun _ => ?_) (fun _ => ?_)
          · refine zj_loc [] (L2 := []) rfl ?_
            exact j_M_places_26 X s0
          · refine zj_iconst 31 0 X kd_M_places_30 ki_0 rfl ?_
            exact zj_zret X kd_M_places_31 (Or.inl rfl)
      · refine zj_iconst 31 0 X kd_M_places_30 ki_0 rfl ?_
        exact zj_zret X kd_M_places_31 (Or.inl rfl)
theorem c_M_places {l : Launch} {P : ZP} (hV : ZVok (zmV P)) (s0 : ZS) (x1 : Int32) (x2 : Int32) {z : Int32 × ZS} (h : f_M_places s0 x1 x2 = some z) : zMi l y_M_places b_M_places 2 (some .boolean) 0 0 (zmV P) s0 [.int x1, .int x2] z :=
  zMi_of (by decide +kernel) rfl rfl (Nat.le_of_ble_eq_true rfl) hV (fun _ X => j_M_places X s0 x1 x2) h
theorem kc_M_183 : zCS "FrameMachineModel" 183 y_M_places b_M_places 2 (some .boolean) 2 := ⟨⟨kw_957, kw_958, kw_11, kw_959⟩, by decide +kernel, by decide +kernel, by decide +kernel⟩
theorem mc_M_183 {ρ : Type} {E : ZE} {P : ZP} {A : Nat → Prop} {cc : ByteArray} {nL : Nat} {ret : Option FieldType} {fr lo : Nat} {F : ρ → State → Prop} {pc : Nat} {L : List (Nat × Value)} {rest : List Value} {σ : ZS} {x1 : Int32} {x2 : Int32} {K : Int32 × ZS → Option ρ} (q : Nat) (X : ZX E (zmV P) A "FrameMachineModel" cc nL ret fr lo) (d : decode cc pc = .ok (.invokestatic 183, 3)) (hfr : 0 + 1 ≤ fr) (hlo : 8 + (2 + 11) + 0 ≤ lo) (hr : (rest.map fun v => v.category).sum ≤ 8) (hq : pc + 3 = q) (kk : ∀ p : Int32 × ZS, ZJ E (zmV P) A nL F q L (.int p.1 :: rest) p.2 (K p)) : ZJ E (zmV P) A nL F pc L (.int x2 :: .int x1 :: rest) σ ((f_M_places σ x1 x2).bind K) :=
  zj_cSi q (As := [.int x1, .int x2]) (rest := rest) X kc_M_183 hfr hlo (fun p h => c_M_places (zx_v X) σ x1 x2 h) rfl hr d hq kk
-- FrameMachineModel.locate(III)V
theorem kd_M_locate_0 : decode b_M_locate 0 = .ok (.iload_n 2, 1) := by decide +kernel
theorem kd_M_locate_1 : decode b_M_locate 1 = .ok (.bipush 7, 2) := by decide +kernel
theorem kd_M_locate_3 : decode b_M_locate 3 = .ok (.if_icmp .ne 11, 3) := by decide +kernel
theorem kd_M_locate_6 : decode b_M_locate 6 = .ok (.iload_n 3, 1) := by decide +kernel
theorem kd_M_locate_7 : decode b_M_locate 7 = .ok (.ifCond .ne 7, 3) := by decide +kernel
theorem kd_M_locate_10 : decode b_M_locate 10 = .ok (.iconst 2, 1) := by decide +kernel
theorem kd_M_locate_11 : decode b_M_locate 11 = .ok (.goto 7, 3) := by decide +kernel
theorem kd_M_locate_14 : decode b_M_locate 14 = .ok (.iload_n 3, 1) := by decide +kernel
theorem kd_M_locate_15 : decode b_M_locate 15 = .ok (.invokestatic 83, 3) := by decide +kernel
theorem kd_M_locate_18 : decode b_M_locate 18 = .ok (.istore 4, 2) := by decide +kernel
theorem kd_M_locate_20 : decode b_M_locate 20 = .ok (.aload_n 0, 1) := by decide +kernel
theorem kd_M_locate_21 : decode b_M_locate 21 = .ok (.iconst 0, 1) := by decide +kernel
theorem kd_M_locate_22 : decode b_M_locate 22 = .ok (.putfield 151, 3) := by decide +kernel
theorem kd_M_locate_25 : decode b_M_locate 25 = .ok (.iload_n 1, 1) := by decide +kernel
theorem kd_M_locate_26 : decode b_M_locate 26 = .ok (.iconst 4, 1) := by decide +kernel
theorem kd_M_locate_27 : decode b_M_locate 27 = .ok (.if_icmp .ne 14, 3) := by decide +kernel
theorem kd_M_locate_30 : decode b_M_locate 30 = .ok (.aload_n 0, 1) := by decide +kernel
theorem kd_M_locate_31 : decode b_M_locate 31 = .ok (.getfield 16, 3) := by decide +kernel
theorem kd_M_locate_34 : decode b_M_locate 34 = .ok (.iload_n 2, 1) := by decide +kernel
theorem kd_M_locate_35 : decode b_M_locate 35 = .ok (.dup2, 1) := by decide +kernel
theorem kd_M_locate_36 : decode b_M_locate 36 = .ok (.iaload, 1) := by decide +kernel
theorem kd_M_locate_37 : decode b_M_locate 37 = .ok (.iload 4, 2) := by decide +kernel
theorem kd_M_locate_39 : decode b_M_locate 39 = .ok (.isub, 1) := by decide +kernel
theorem kd_M_locate_40 : decode b_M_locate 40 = .ok (.iastore, 1) := by decide +kernel
theorem kd_M_locate_41 : decode b_M_locate 41 = .ok (.iload_n 1, 1) := by decide +kernel
theorem kd_M_locate_42 : decode b_M_locate 42 = .ok (.iconst 1, 1) := by decide +kernel
theorem kd_M_locate_43 : decode b_M_locate 43 = .ok (.if_icmp .le 18, 3) := by decide +kernel
theorem kd_M_locate_46 : decode b_M_locate 46 = .ok (.iload_n 1, 1) := by decide +kernel
theorem kd_M_locate_47 : decode b_M_locate 47 = .ok (.iconst 5, 1) := by decide +kernel
theorem kd_M_locate_48 : decode b_M_locate 48 = .ok (.if_icmp .ge 13, 3) := by decide +kernel
theorem kd_M_locate_51 : decode b_M_locate 51 = .ok (.aload_n 0, 1) := by decide +kernel
theorem kd_M_locate_52 : decode b_M_locate 52 = .ok (.aload_n 0, 1) := by decide +kernel
theorem kd_M_locate_53 : decode b_M_locate 53 = .ok (.getfield 16, 3) := by decide +kernel
theorem kd_M_locate_56 : decode b_M_locate 56 = .ok (.iload_n 2, 1) := by decide +kernel
theorem kd_M_locate_57 : decode b_M_locate 57 = .ok (.iaload, 1) := by decide +kernel
theorem kd_M_locate_58 : decode b_M_locate 58 = .ok (.putfield 151, 3) := by decide +kernel
theorem kd_M_locate_61 : decode b_M_locate 61 = .ok (.iload_n 1, 1) := by decide +kernel
theorem kd_M_locate_62 : decode b_M_locate 62 = .ok (.iconst 3, 1) := by decide +kernel
theorem kd_M_locate_63 : decode b_M_locate 63 = .ok (.if_icmp .ne 14, 3) := by decide +kernel
theorem kd_M_locate_66 : decode b_M_locate 66 = .ok (.aload_n 0, 1) := by decide +kernel
theorem kd_M_locate_67 : decode b_M_locate 67 = .ok (.getfield 16, 3) := by decide +kernel
theorem kd_M_locate_70 : decode b_M_locate 70 = .ok (.iload_n 2, 1) := by decide +kernel
theorem kd_M_locate_71 : decode b_M_locate 71 = .ok (.dup2, 1) := by decide +kernel
theorem kd_M_locate_72 : decode b_M_locate 72 = .ok (.iaload, 1) := by decide +kernel
theorem kd_M_locate_73 : decode b_M_locate 73 = .ok (.iload 4, 2) := by decide +kernel
theorem kd_M_locate_75 : decode b_M_locate 75 = .ok (.iadd, 1) := by decide +kernel
theorem kd_M_locate_76 : decode b_M_locate 76 = .ok (.iastore, 1) := by decide +kernel
theorem kd_M_locate_77 : decode b_M_locate 77 = .ok (.iload_n 1, 1) := by decide +kernel
theorem kd_M_locate_78 : decode b_M_locate 78 = .ok (.iconst 5, 1) := by decide +kernel
theorem kd_M_locate_79 : decode b_M_locate 79 = .ok (.if_icmp .ne 30, 3) := by decide +kernel
theorem kd_M_locate_82 : decode b_M_locate 82 = .ok (.aload_n 0, 1) := by decide +kernel
theorem kd_M_locate_83 : decode b_M_locate 83 = .ok (.invokevirtual 110, 3) := by decide +kernel
theorem kd_M_locate_86 : decode b_M_locate 86 = .ok (.istore 5, 2) := by decide +kernel
theorem kd_M_locate_88 : decode b_M_locate 88 = .ok (.aload_n 0, 1) := by decide +kernel
theorem kd_M_locate_89 : decode b_M_locate 89 = .ok (.aload_n 0, 1) := by decide +kernel
theorem kd_M_locate_90 : decode b_M_locate 90 = .ok (.getfield 16, 3) := by decide +kernel
theorem kd_M_locate_93 : decode b_M_locate 93 = .ok (.iload_n 2, 1) := by decide +kernel
theorem kd_M_locate_94 : decode b_M_locate 94 = .ok (.iaload, 1) := by decide +kernel
theorem kd_M_locate_95 : decode b_M_locate 95 = .ok (.iload 5, 2) := by decide +kernel
theorem kd_M_locate_97 : decode b_M_locate 97 = .ok (.i2l, 1) := by decide +kernel
theorem kd_M_locate_98 : decode b_M_locate 98 = .ok (.iconst 1, 1) := by decide +kernel
theorem kd_M_locate_99 : decode b_M_locate 99 = .ok (.invokestatic 154, 3) := by decide +kernel
theorem kd_M_locate_102 : decode b_M_locate 102 = .ok (.iadd, 1) := by decide +kernel
theorem kd_M_locate_103 : decode b_M_locate 103 = .ok (.putfield 151, 3) := by decide +kernel
theorem kd_M_locate_106 : decode b_M_locate 106 = .ok (.goto 75, 3) := by decide +kernel
theorem kd_M_locate_109 : decode b_M_locate 109 = .ok (.iload_n 1, 1) := by decide +kernel
theorem kd_M_locate_110 : decode b_M_locate 110 = .ok (.bipush 6, 2) := by decide +kernel
theorem kd_M_locate_112 : decode b_M_locate 112 = .ok (.if_icmp .ne 23, 3) := by decide +kernel
theorem kd_M_locate_115 : decode b_M_locate 115 = .ok (.iload_n 2, 1) := by decide +kernel
theorem kd_M_locate_116 : decode b_M_locate 116 = .ok (.iconst 1, 1) := by decide +kernel
theorem kd_M_locate_117 : decode b_M_locate 117 = .ok (.if_icmp .ne 18, 3) := by decide +kernel
theorem kd_M_locate_120 : decode b_M_locate 120 = .ok (.aload_n 0, 1) := by decide +kernel
theorem kd_M_locate_121 : decode b_M_locate 121 = .ok (.invokevirtual 158, 3) := by decide +kernel
theorem kd_M_locate_124 : decode b_M_locate 124 = .ok (.istore 5, 2) := by decide +kernel
theorem kd_M_locate_126 : decode b_M_locate 126 = .ok (.aload_n 0, 1) := by decide +kernel
theorem kd_M_locate_127 : decode b_M_locate 127 = .ok (.iload 5, 2) := by decide +kernel
theorem kd_M_locate_129 : decode b_M_locate 129 = .ok (.putfield 151, 3) := by decide +kernel
theorem kd_M_locate_132 : decode b_M_locate 132 = .ok (.goto 49, 3) := by decide +kernel
theorem kd_M_locate_135 : decode b_M_locate 135 = .ok (.iload_n 1, 1) := by decide +kernel
theorem kd_M_locate_136 : decode b_M_locate 136 = .ok (.bipush 6, 2) := by decide +kernel
theorem kd_M_locate_138 : decode b_M_locate 138 = .ok (.if_icmp .ne 43, 3) := by decide +kernel
theorem kd_M_locate_141 : decode b_M_locate 141 = .ok (.iload_n 2, 1) := by decide +kernel
theorem kd_M_locate_142 : decode b_M_locate 142 = .ok (.iconst 2, 1) := by decide +kernel
theorem kd_M_locate_143 : decode b_M_locate 143 = .ok (.if_icmp .eq 38, 3) := by decide +kernel
theorem kd_M_locate_146 : decode b_M_locate 146 = .ok (.iload_n 2, 1) := by decide +kernel
theorem kd_M_locate_147 : decode b_M_locate 147 = .ok (.iconst 3, 1) := by decide +kernel
theorem kd_M_locate_148 : decode b_M_locate 148 = .ok (.if_icmp .ne 10, 3) := by decide +kernel
theorem kd_M_locate_151 : decode b_M_locate 151 = .ok (.aload_n 0, 1) := by decide +kernel
theorem kd_M_locate_152 : decode b_M_locate 152 = .ok (.getfield 103, 3) := by decide +kernel
theorem kd_M_locate_155 : decode b_M_locate 155 = .ok (.goto 4, 3) := by decide +kernel
theorem kd_M_locate_158 : decode b_M_locate 158 = .ok (.iconst 0, 1) := by decide +kernel
theorem kd_M_locate_159 : decode b_M_locate 159 = .ok (.istore 5, 2) := by decide +kernel
theorem kd_M_locate_161 : decode b_M_locate 161 = .ok (.aload_n 0, 1) := by decide +kernel
theorem kd_M_locate_162 : decode b_M_locate 162 = .ok (.invokevirtual 110, 3) := by decide +kernel
theorem kd_M_locate_165 : decode b_M_locate 165 = .ok (.istore 6, 2) := by decide +kernel
theorem kd_M_locate_167 : decode b_M_locate 167 = .ok (.aload_n 0, 1) := by decide +kernel
theorem kd_M_locate_168 : decode b_M_locate 168 = .ok (.iload 5, 2) := by decide +kernel
theorem kd_M_locate_170 : decode b_M_locate 170 = .ok (.iload 6, 2) := by decide +kernel
theorem kd_M_locate_172 : decode b_M_locate 172 = .ok (.i2l, 1) := by decide +kernel
theorem kd_M_locate_173 : decode b_M_locate 173 = .ok (.iconst 1, 1) := by decide +kernel
theorem kd_M_locate_174 : decode b_M_locate 174 = .ok (.invokestatic 154, 3) := by decide +kernel
theorem kd_M_locate_177 : decode b_M_locate 177 = .ok (.iadd, 1) := by decide +kernel
theorem kd_M_locate_178 : decode b_M_locate 178 = .ok (.putfield 151, 3) := by decide +kernel
theorem kd_M_locate_181 : decode b_M_locate 181 = .ok (.return_, 1) := by decide +kernel
noncomputable def f_M_locate_159 (s0 : ZS) (t0 : Int32) : Option (ZS) :=
  (f_M_fetch s0 ).bind fun p3 =>
  (f_M_signed p3.2 (p3.1.toInt64) 1).bind fun p4 =>
  zs_nm (zs_up p4.2 0 21 (t0 + p4.1)) fun s5 =>
  some s5
noncomputable def f_M_locate_135 (s0 : ZS) (l1 : Int32) (l2 : Int32) : Option (ZS) :=
  if l1 = 6 then
    if l2 = 2 then
      some s0
    else
      if l2 = 3 then
        f_M_locate_159 s0 ((s0 0 2))
      else
        f_M_locate_159 s0 0
  else
    some s0
noncomputable def f_M_locate_77 (s0 : ZS) (l1 : Int32) (l2 : Int32) : Option (ZS) :=
  if l1 = 5 then
    (f_M_fetch s0 ).bind fun p8 =>
    if l2 < 0 ∨ 8 ≤ l2.toNatClampNeg then none else
    (f_M_signed p8.2 (p8.1.toInt64) 1).bind fun p9 =>
    zs_nm (zs_up p9.2 0 21 ((p8.2 3 l2.toNatClampNeg) + p9.1)) fun s10 =>
    some s10
  else
    if l1 = 6 then
      if l2 = 1 then
        (f_M_fetchLong s0 ).bind fun p6 =>
        zs_nm (zs_up p6.2 0 21 p6.1) fun s7 =>
        some s7
      else
        f_M_locate_135 s0 l1 l2
    else
      f_M_locate_135 s0 l1 l2
noncomputable def f_M_locate_61 (s0 : ZS) (l1 : Int32) (l2 : Int32) (l4 : Int32) : Option (ZS) :=
  if l1 = 3 then
    if l2 < 0 ∨ 8 ≤ l2.toNatClampNeg then none else
    if l2 < 0 ∨ 8 ≤ l2.toNatClampNeg then none else
    zs_nm (zs_up s0 3 l2.toNatClampNeg ((s0 3 l2.toNatClampNeg) + l4)) fun s11 =>
    f_M_locate_77 s11 l1 l2
  else
    f_M_locate_77 s0 l1 l2
noncomputable def f_M_locate_41 (s0 : ZS) (l1 : Int32) (l2 : Int32) (l4 : Int32) : Option (ZS) :=
  if l1 ≤ 1 then
    f_M_locate_61 s0 l1 l2 l4
  else
    if 5 ≤ l1 then
      f_M_locate_61 s0 l1 l2 l4
    else
      if l2 < 0 ∨ 8 ≤ l2.toNatClampNeg then none else
      zs_nm (zs_up s0 0 21 (s0 3 l2.toNatClampNeg)) fun s12 =>
      f_M_locate_61 s12 l1 l2 l4
noncomputable def f_M_locate_18 (s0 : ZS) (l1 : Int32) (l2 : Int32) (t0 : Int32) : Option (ZS) :=
  zs_nm (zs_up s0 0 21 0) fun s2 =>
  if l1 = 4 then
    if l2 < 0 ∨ 8 ≤ l2.toNatClampNeg then none else
    if l2 < 0 ∨ 8 ≤ l2.toNatClampNeg then none else
    zs_nm (zs_up s2 3 l2.toNatClampNeg ((s2 3 l2.toNatClampNeg) - t0)) fun s13 =>
    f_M_locate_41 s13 l1 l2 t0
  else
    f_M_locate_41 s2 l1 l2 t0
noncomputable def f_M_locate_14 (s0 : ZS) (l1 : Int32) (l2 : Int32) (l3 : Int32) : Option (ZS) :=
  (f_M_bytes s0 l3).bind fun p1 =>
  f_M_locate_18 p1.2 l1 l2 p1.1
noncomputable def f_M_locate (s0 : ZS) (x1 : Int32) (x2 : Int32) (x3 : Int32) : Option (ZS) :=
  if x2 = 7 then
    if x3 = 0 then
      f_M_locate_18 s0 x1 x2 2
    else
      f_M_locate_14 s0 x1 x2 x3
  else
    f_M_locate_14 s0 x1 x2 x3
theorem j_M_locate_159 {P : ZP} {E : ZE} {A : Nat → Prop} (X : ZX E (zmV P) A "FrameMachineModel" b_M_locate 7 none 4 95) (s0 : ZS) (t0 : Int32) : ZJ E (zmV P) A 7 (zFv E (zmV P) A) 159 [(0, .ref (P.1 0))] [.int t0] s0 (f_M_locate_159 s0 t0) := by
  unfold f_M_locate_159
  refine zj_istore 161 [(5, .int t0), (0, .ref (P.1 0))] X kd_M_locate_159 (Nat.le_of_ble_eq_true rfl) rfl rfl ?_
  refine zj_aload_n 162 1 X kd_M_locate_161 rfl rfl rfl ?_
  refine mc_M_110 165 X kd_M_locate_162 (Nat.le_of_ble_eq_true rfl) (Nat.le_of_ble_eq_true rfl) (Nat.le_of_ble_eq_true rfl) rfl (fun p3 => ?_)
  refine zj_istore 167 [(6, .int p3.1), (5, .int t0), (0, .ref (P.1 0))] X kd_M_locate_165 (Nat.le_of_ble_eq_true rfl) rfl rfl ?_
  refine zj_aload_n 168 2 X kd_M_locate_167 rfl rfl rfl ?_
  refine zj_iload 170 1 X kd_M_locate_168 rfl rfl ?_
  refine zj_iload 172 0 X kd_M_locate_170 rfl rfl ?_
  refine zj_i2l 173 X kd_M_locate_172 rfl ?_
  refine zj_iconst 174 1 X kd_M_locate_173 ki_1 rfl ?_
  refine mc_M_154 177 X kd_M_locate_174 (Nat.le_of_ble_eq_true rfl) (Nat.le_of_ble_eq_true rfl) (Nat.le_of_ble_eq_true rfl) rfl (fun p4 => ?_)
  refine zj_iadd 178 X kd_M_locate_177 rfl ?_
  refine pf_M_151 181 X kd_M_locate_178 rfl ?_
  refine zj_nms (fun s5 => ?_)
  exact zj_vret X kd_M_locate_181
theorem j_M_locate_135 {P : ZP} {E : ZE} {A : Nat → Prop} (X : ZX E (zmV P) A "FrameMachineModel" b_M_locate 7 none 4 95) (s0 : ZS) (l1 : Int32) (l2 : Int32) : ZJ E (zmV P) A 7 (zFv E (zmV P) A) 135 [(0, .ref (P.1 0)), (1, .int l1), (2, .int l2)] [] s0 (f_M_locate_135 s0 l1 l2) := by
  unfold f_M_locate_135
  refine zj_iload_n 136 1 X kd_M_locate_135 rfl rfl rfl ?_
  refine zj_bipush 138 6 X kd_M_locate_136 kb_6 rfl ?_
  refine zj_icmp_ne 181 141 X kd_M_locate_138 rfl rfl (fun _ => ?_) (fun _ => ?_)
  · refine zj_iload_n 142 2 X kd_M_locate_141 rfl rfl rfl ?_
    refine zj_iconst 143 2 X kd_M_locate_142 ki_2 rfl ?_
    refine zj_icmp_eq 181 146 X kd_M_locate_143 rfl rfl (fun _ => ?_) (fun _ => ?_)
    · exact zj_vret X kd_M_locate_181
    · refine zj_iload_n 147 2 X kd_M_locate_146 rfl rfl rfl ?_
      refine zj_iconst 148 3 X kd_M_locate_147 ki_3 rfl ?_
      refine zj_icmp_ne 158 151 X kd_M_locate_148 rfl rfl (fun _ => ?_) (fun _ => ?_)
      · refine zj_aload_n 152 0 X kd_M_locate_151 rfl rfl rfl ?_
        refine gf_M_103 155 X kd_M_locate_152 rfl ?_
        refine zj_goto 159 X kd_M_locate_155 rfl ?_
        refine zj_loc [0] (L2 := [(0, .ref (P.1 0))]) rfl ?_
        exact j_M_locate_159 X s0 ((s0 0 2))
      · refine zj_iconst 159 0 X kd_M_locate_158 ki_0 rfl ?_
        refine zj_loc [0] (L2 := [(0, .ref (P.1 0))]) rfl ?_
        exact j_M_locate_159 X s0 0
  · exact zj_vret X kd_M_locate_181
theorem j_M_locate_77 {P : ZP} {E : ZE} {A : Nat → Prop} (X : ZX E (zmV P) A "FrameMachineModel" b_M_locate 7 none 4 95) (s0 : ZS) (l1 : Int32) (l2 : Int32) : ZJ E (zmV P) A 7 (zFv E (zmV P) A) 77 [(0, .ref (P.1 0)), (1, .int l1), (2, .int l2)] [] s0 (f_M_locate_77 s0 l1 l2) := by
  unfold f_M_locate_77
  refine zj_iload_n 78 1 X kd_M_locate_77 rfl rfl rfl ?_
  refine zj_iconst 79 5 X kd_M_locate_78 ki_5 rfl ?_
  refine zj_icmp_ne 109 82 X kd_M_locate_79 rfl rfl (fun _ => ?_) (fun _ => ?_)
  · refine zj_aload_n 83 0 X kd_M_locate_82 rfl rfl rfl ?_
    refine mc_M_110 86 X kd_M_locate_83 (Nat.le_of_ble_eq_true rfl) (Nat.le_of_ble_eq_true rfl) (Nat.le_of_ble_eq_true rfl) rfl (fun p8 => ?_)
    refine zj_istore 88 [(5, .int p8.1), (0, .ref (P.1 0)), (1, .int l1), (2, .int l2)] X kd_M_locate_86 (Nat.le_of_ble_eq_true rfl) rfl rfl ?_
    refine zj_aload_n 89 1 X kd_M_locate_88 rfl rfl rfl ?_
    refine zj_aload_n 90 1 X kd_M_locate_89 rfl rfl rfl ?_
    refine gf_M_16 93 X kd_M_locate_90 rfl ?_
    refine zj_iload_n 94 3 X kd_M_locate_93 rfl rfl rfl ?_
    refine zj_ng (fun hg => ?_)
    refine al_M_3 95 X kd_M_locate_94 hg rfl ?_
    refine zj_iload 97 0 X kd_M_locate_95 rfl rfl ?_
    refine zj_i2l 98 X kd_M_locate_97 rfl ?_
    refine zj_iconst 99 1 X kd_M_locate_98 ki_1 rfl ?_
    refine mc_M_154 102 X kd_M_locate_99 (Nat.le_of_ble_eq_true rfl) (Nat.le_of_ble_eq_true rfl) (Nat.le_of_ble_eq_true rfl) rfl (fun p9 => ?_)
    refine zj_iadd 103 X kd_M_locate_102 rfl ?_
    refine pf_M_151 106 X kd_M_locate_103 rfl ?_
    refine zj_nms (fun s10 => ?_)
    refine zj_goto 181 X kd_M_locate_106 rfl ?_
    exact zj_vret X kd_M_locate_181
  · refine zj_iload_n 110 1 X kd_M_locate_109 rfl rfl rfl ?_
    refine zj_bipush 112 6 X kd_M_locate_110 kb_6 rfl ?_
    refine zj_icmp_ne 135 115 X kd_M_locate_112 rfl rfl (fun _ => ?_) (fun _ => ?_)
    · refine zj_iload_n 116 2 X kd_M_locate_115 rfl rfl rfl ?_
      refine zj_iconst 117 1 X kd_M_locate_116 ki_1 rfl ?_
      refine zj_icmp_ne 135 120 X kd_M_locate_117 rfl rfl (fun _ => ?_) (fun _ => ?_)
      · refine zj_aload_n 121 0 X kd_M_locate_120 rfl rfl rfl ?_
        refine mc_M_158 124 X kd_M_locate_121 (Nat.le_of_ble_eq_true rfl) (Nat.le_of_ble_eq_true rfl) (Nat.le_of_ble_eq_true rfl) rfl (fun p6 => ?_)
        refine zj_istore 126 [(5, .int p6.1), (0, .ref (P.1 0)), (1, .int l1), (2, .int l2)] X kd_M_locate_124 (Nat.le_of_ble_eq_true rfl) rfl rfl ?_
        refine zj_aload_n 127 1 X kd_M_locate_126 rfl rfl rfl ?_
        refine zj_iload 129 0 X kd_M_locate_127 rfl rfl ?_
        refine pf_M_151 132 X kd_M_locate_129 rfl ?_
        refine zj_nms (fun s7 => ?_)
        refine zj_goto 181 X kd_M_locate_132 rfl ?_
        exact zj_vret X kd_M_locate_181
      · exact j_M_locate_135 X s0 l1 l2
    · exact j_M_locate_135 X s0 l1 l2
theorem j_M_locate_61 {P : ZP} {E : ZE} {A : Nat → Prop} (X : ZX E (zmV P) A "FrameMachineModel" b_M_locate 7 none 4 95) (s0 : ZS) (l1 : Int32) (l2 : Int32) (l4 : Int32) : ZJ E (zmV P) A 7 (zFv E (zmV P) A) 61 [(0, .ref (P.1 0)), (1, .int l1), (2, .int l2), (4, .int l4)] [] s0 (f_M_locate_61 s0 l1 l2 l4) := by
  unfold f_M_locate_61
  refine zj_iload_n 62 1 X kd_M_locate_61 rfl rfl rfl ?_
  refine zj_iconst 63 3 X kd_M_locate_62 ki_3 rfl ?_
  refine zj_icmp_ne 77 66 X kd_M_locate_63 rfl rfl (fun _ => ?_) (fun _ => ?_)
  · refine zj_aload_n 67 0 X kd_M_locate_66 rfl rfl rfl ?_
    refine gf_M_16 70 X kd_M_locate_67 rfl ?_
    refine zj_iload_n 71 2 X kd_M_locate_70 rfl rfl rfl ?_
    refine zj_dup2 72 X kd_M_locate_71 rfl rfl rfl ?_
    refine zj_ng (fun hg => ?_)
    refine al_M_3 73 X kd_M_locate_72 hg rfl ?_
    refine zj_iload 75 3 X kd_M_locate_73 rfl rfl ?_
    refine zj_iadd 76 X kd_M_locate_75 rfl ?_
    refine zj_ng (fun hg => ?_)
    refine as_M_3 77 X kd_M_locate_76 hg rfl ?_
    refine zj_nms (fun s11 => ?_)
    refine zj_loc [0, 1, 2] (L2 := [(0, .ref (P.1 0)), (1, .int l1), (2, .int l2)]) rfl ?_
    exact j_M_locate_77 X s11 l1 l2
  · refine zj_loc [0, 1, 2] (L2 := [(0, .ref (P.1 0)), (1, .int l1), (2, .int l2)]) rfl ?_
    exact j_M_locate_77 X s0 l1 l2
theorem j_M_locate_41 {P : ZP} {E : ZE} {A : Nat → Prop} (X : ZX E (zmV P) A "FrameMachineModel" b_M_locate 7 none 4 95) (s0 : ZS) (l1 : Int32) (l2 : Int32) (l4 : Int32) : ZJ E (zmV P) A 7 (zFv E (zmV P) A) 41 [(0, .ref (P.1 0)), (1, .int l1), (2, .int l2), (4, .int l4)] [] s0 (f_M_locate_41 s0 l1 l2 l4) := by
  unfold f_M_locate_41
  refine zj_iload_n 42 1 X kd_M_locate_41 rfl rfl rfl ?_
  refine zj_iconst 43 1 X kd_M_locate_42 ki_1 rfl ?_
  refine zj_icmp_le 61 46 X kd_M_locate_43 rfl rfl (fun _ => ?_) (fun _ => ?_)
  · exact j_M_locate_61 X s0 l1 l2 l4
  · refine zj_iload_n 47 1 X kd_M_locate_46 rfl rfl rfl ?_
    refine zj_iconst 48 5 X kd_M_locate_47 ki_5 rfl ?_
    refine zj_icmp_ge 61 51 X kd_M_locate_48 rfl rfl (fun _ => ?_) (fun _ => ?_)
    · exact j_M_locate_61 X s0 l1 l2 l4
    · refine zj_aload_n 52 0 X kd_M_locate_51 rfl rfl rfl ?_
      refine zj_aload_n 53 0 X kd_M_locate_52 rfl rfl rfl ?_
      refine gf_M_16 56 X kd_M_locate_53 rfl ?_
      refine zj_iload_n 57 2 X kd_M_locate_56 rfl rfl rfl ?_
      refine zj_ng (fun hg => ?_)
      refine al_M_3 58 X kd_M_locate_57 hg rfl ?_
      refine pf_M_151 61 X kd_M_locate_58 rfl ?_
      refine zj_nms (fun s12 => ?_)
      exact j_M_locate_61 X s12 l1 l2 l4
theorem j_M_locate_18 {P : ZP} {E : ZE} {A : Nat → Prop} (X : ZX E (zmV P) A "FrameMachineModel" b_M_locate 7 none 4 95) (s0 : ZS) (l1 : Int32) (l2 : Int32) (t0 : Int32) : ZJ E (zmV P) A 7 (zFv E (zmV P) A) 18 [(0, .ref (P.1 0)), (1, .int l1), (2, .int l2)] [.int t0] s0 (f_M_locate_18 s0 l1 l2 t0) := by
  unfold f_M_locate_18
  refine zj_istore 20 [(4, .int t0), (0, .ref (P.1 0)), (1, .int l1), (2, .int l2)] X kd_M_locate_18 (Nat.le_of_ble_eq_true rfl) rfl rfl ?_
  refine zj_aload_n 21 1 X kd_M_locate_20 rfl rfl rfl ?_
  refine zj_iconst 22 0 X kd_M_locate_21 ki_0 rfl ?_
  refine pf_M_151 25 X kd_M_locate_22 rfl ?_
  refine zj_nms (fun s2 => ?_)
  refine zj_iload_n 26 2 X kd_M_locate_25 rfl rfl rfl ?_
  refine zj_iconst 27 4 X kd_M_locate_26 ki_4 rfl ?_
  refine zj_icmp_ne 41 30 X kd_M_locate_27 rfl rfl (fun _ => ?_) (fun _ => ?_)
  · refine zj_aload_n 31 1 X kd_M_locate_30 rfl rfl rfl ?_
    refine gf_M_16 34 X kd_M_locate_31 rfl ?_
    refine zj_iload_n 35 3 X kd_M_locate_34 rfl rfl rfl ?_
    refine zj_dup2 36 X kd_M_locate_35 rfl rfl rfl ?_
    refine zj_ng (fun hg => ?_)
    refine al_M_3 37 X kd_M_locate_36 hg rfl ?_
    refine zj_iload 39 0 X kd_M_locate_37 rfl rfl ?_
    refine zj_isub 40 X kd_M_locate_39 rfl ?_
    refine zj_ng (fun hg => ?_)
    refine as_M_3 41 X kd_M_locate_40 hg rfl ?_
    refine zj_nms (fun s13 => ?_)
    refine zj_loc [1, 2, 3, 0] (L2 := [(0, .ref (P.1 0)), (1, .int l1), (2, .int l2), (4, .int t0)]) rfl ?_
    exact j_M_locate_41 X s13 l1 l2 t0
  · refine zj_loc [1, 2, 3, 0] (L2 := [(0, .ref (P.1 0)), (1, .int l1), (2, .int l2), (4, .int t0)]) rfl ?_
    exact j_M_locate_41 X s2 l1 l2 t0
theorem j_M_locate_14 {P : ZP} {E : ZE} {A : Nat → Prop} (X : ZX E (zmV P) A "FrameMachineModel" b_M_locate 7 none 4 95) (s0 : ZS) (l1 : Int32) (l2 : Int32) (l3 : Int32) : ZJ E (zmV P) A 7 (zFv E (zmV P) A) 14 [(0, .ref (P.1 0)), (1, .int l1), (2, .int l2), (3, .int l3)] [] s0 (f_M_locate_14 s0 l1 l2 l3) := by
  unfold f_M_locate_14
  refine zj_iload_n 15 3 X kd_M_locate_14 rfl rfl rfl ?_
  refine mc_M_83 18 X kd_M_locate_15 (Nat.le_of_ble_eq_true rfl) (Nat.le_of_ble_eq_true rfl) (Nat.le_of_ble_eq_true rfl) rfl (fun p1 => ?_)
  refine zj_loc [0, 1, 2] (L2 := [(0, .ref (P.1 0)), (1, .int l1), (2, .int l2)]) rfl ?_
  exact j_M_locate_18 X p1.2 l1 l2 p1.1
theorem j_M_locate {P : ZP} {E : ZE} {A : Nat → Prop} (X : ZX E (zmV P) A "FrameMachineModel" b_M_locate 7 none 4 95) (s0 : ZS) (x1 : Int32) (x2 : Int32) (x3 : Int32) : ZJ E (zmV P) A 7 (zFv E (zmV P) A) 0 [(0, .ref (P.1 0)), (1, .int x1), (2, .int x2), (3, .int x3)] [] s0 (f_M_locate s0 x1 x2 x3) := by
  unfold f_M_locate
  refine zj_iload_n 1 2 X kd_M_locate_0 rfl rfl rfl ?_
  refine zj_bipush 3 7 X kd_M_locate_1 kb_7 rfl ?_
  refine zj_icmp_ne 14 6 X kd_M_locate_3 rfl rfl (fun _ => ?_) (fun _ => ?_)
  · refine zj_iload_n 7 3 X kd_M_locate_6 rfl rfl rfl ?_
    refine zj_if_ne 14 10 X kd_M_locate_7 rfl rfl (fun _ => ?_) (fun _ => ?_)
    · refine zj_iconst 11 2 X kd_M_locate_10 ki_2 rfl ?_
      refine zj_goto 18 X kd_M_locate_11 rfl ?_
      refine zj_loc [0, 1, 2] (L2 := [(0, .ref (P.1 0)), (1, .int x1), (2, .int x2)]) rfl ?_
      exact j_M_locate_18 X s0 x1 x2 2
    · exact j_M_locate_14 X s0 x1 x2 x3
  · exact j_M_locate_14 X s0 x1 x2 x3
theorem c_M_locate {l : Launch} {P : ZP} (hV : ZVok (zmV P)) (s0 : ZS) (x1 : Int32) (x2 : Int32) (x3 : Int32) {z : ZS} (h : f_M_locate s0 x1 x2 x3 = some z) : zMv l y_M_locate b_M_locate 7 none 4 95 (zmV P) s0 [.ref (P.1 0), .int x1, .int x2, .int x3] z :=
  zMv_of (by decide +kernel) rfl rfl (Nat.le_of_ble_eq_true rfl) hV (fun _ X => j_M_locate X s0 x1 x2 x3) h
theorem kc_M_192 : zCV "FrameMachineModel" 192 y_M_locate b_M_locate 7 none 3 := ⟨⟨kw_1025, kw_1027, ksel_52, kw_11, kw_1028⟩, by decide +kernel, by decide +kernel, by decide +kernel⟩
theorem mc_M_192 {ρ : Type} {E : ZE} {P : ZP} {A : Nat → Prop} {cc : ByteArray} {nL : Nat} {ret : Option FieldType} {fr lo : Nat} {F : ρ → State → Prop} {pc : Nat} {L : List (Nat × Value)} {rest : List Value} {σ : ZS} {x1 : Int32} {x2 : Int32} {x3 : Int32} {K : ZS → Option ρ} (q : Nat) (X : ZX E (zmV P) A "FrameMachineModel" cc nL ret fr lo) (d : decode cc pc = .ok (.invokevirtual 192, 3)) (hfr : 4 + 1 ≤ fr) (hlo : 8 + (7 + 11) + 95 ≤ lo) (hr : (rest.map fun v => v.category).sum ≤ 8) (hq : pc + 3 = q) (kk : ∀ p : ZS, ZJ E (zmV P) A nL F q L (rest) p (K p)) : ZJ E (zmV P) A nL F pc L (.int x3 :: .int x2 :: .int x1 :: .ref (P.1 0) :: rest) σ ((f_M_locate σ x1 x2 x3).bind K) :=
  zj_cVv q 0 0 (As := [.int x1, .int x2, .int x3]) (rest := rest) X kc_M_192 hfr hlo (fun p h => c_M_locate (zx_v X) σ x1 x2 x3 h) rfl rfl rfl hr d hq kk
-- FrameMachineModel.operand(III)J
theorem kd_M_operand_0 : decode b_M_operand 0 = .ok (.iload_n 1, 1) := by decide +kernel
theorem kd_M_operand_1 : decode b_M_operand 1 = .ok (.iconst 2, 1) := by decide +kernel
theorem kd_M_operand_2 : decode b_M_operand 2 = .ok (.if_icmp .ge 29, 3) := by decide +kernel
theorem kd_M_operand_5 : decode b_M_operand 5 = .ok (.iload_n 1, 1) := by decide +kernel
theorem kd_M_operand_6 : decode b_M_operand 6 = .ok (.ifCond .ne 13, 3) := by decide +kernel
theorem kd_M_operand_9 : decode b_M_operand 9 = .ok (.aload_n 0, 1) := by decide +kernel
theorem kd_M_operand_10 : decode b_M_operand 10 = .ok (.getfield 13, 3) := by decide +kernel
theorem kd_M_operand_13 : decode b_M_operand 13 = .ok (.iload_n 2, 1) := by decide +kernel
theorem kd_M_operand_14 : decode b_M_operand 14 = .ok (.iaload, 1) := by decide +kernel
theorem kd_M_operand_15 : decode b_M_operand 15 = .ok (.i2l, 1) := by decide +kernel
theorem kd_M_operand_16 : decode b_M_operand 16 = .ok (.goto 10, 3) := by decide +kernel
theorem kd_M_operand_19 : decode b_M_operand 19 = .ok (.aload_n 0, 1) := by decide +kernel
theorem kd_M_operand_20 : decode b_M_operand 20 = .ok (.getfield 16, 3) := by decide +kernel
theorem kd_M_operand_23 : decode b_M_operand 23 = .ok (.iload_n 2, 1) := by decide +kernel
theorem kd_M_operand_24 : decode b_M_operand 24 = .ok (.iaload, 1) := by decide +kernel
theorem kd_M_operand_25 : decode b_M_operand 25 = .ok (.i2l, 1) := by decide +kernel
theorem kd_M_operand_26 : decode b_M_operand 26 = .ok (.iload_n 3, 1) := by decide +kernel
theorem kd_M_operand_27 : decode b_M_operand 27 = .ok (.invokestatic 161, 3) := by decide +kernel
theorem kd_M_operand_30 : decode b_M_operand 30 = .ok (.lreturn, 1) := by decide +kernel
theorem kd_M_operand_31 : decode b_M_operand 31 = .ok (.iload_n 1, 1) := by decide +kernel
theorem kd_M_operand_32 : decode b_M_operand 32 = .ok (.bipush 6, 2) := by decide +kernel
theorem kd_M_operand_34 : decode b_M_operand 34 = .ok (.if_icmp .ne 34, 3) := by decide +kernel
theorem kd_M_operand_37 : decode b_M_operand 37 = .ok (.iload_n 2, 1) := by decide +kernel
theorem kd_M_operand_38 : decode b_M_operand 38 = .ok (.iconst 2, 1) := by decide +kernel
theorem kd_M_operand_39 : decode b_M_operand 39 = .ok (.if_icmp .ne 29, 3) := by decide +kernel
theorem kd_M_operand_42 : decode b_M_operand 42 = .ok (.iload_n 3, 1) := by decide +kernel
theorem kd_M_operand_43 : decode b_M_operand 43 = .ok (.iconst 2, 1) := by decide +kernel
theorem kd_M_operand_44 : decode b_M_operand 44 = .ok (.if_icmp .ne 10, 3) := by decide +kernel
theorem kd_M_operand_47 : decode b_M_operand 47 = .ok (.aload_n 0, 1) := by decide +kernel
theorem kd_M_operand_48 : decode b_M_operand 48 = .ok (.invokevirtual 158, 3) := by decide +kernel
theorem kd_M_operand_51 : decode b_M_operand 51 = .ok (.goto 7, 3) := by decide +kernel
theorem kd_M_operand_54 : decode b_M_operand 54 = .ok (.aload_n 0, 1) := by decide +kernel
theorem kd_M_operand_55 : decode b_M_operand 55 = .ok (.invokevirtual 110, 3) := by decide +kernel
theorem kd_M_operand_58 : decode b_M_operand 58 = .ok (.istore 4, 2) := by decide +kernel
theorem kd_M_operand_60 : decode b_M_operand 60 = .ok (.iload 4, 2) := by decide +kernel
theorem kd_M_operand_62 : decode b_M_operand 62 = .ok (.i2l, 1) := by decide +kernel
theorem kd_M_operand_63 : decode b_M_operand 63 = .ok (.iload_n 3, 1) := by decide +kernel
theorem kd_M_operand_64 : decode b_M_operand 64 = .ok (.invokestatic 161, 3) := by decide +kernel
theorem kd_M_operand_67 : decode b_M_operand 67 = .ok (.lreturn, 1) := by decide +kernel
theorem kd_M_operand_68 : decode b_M_operand 68 = .ok (.aload_n 0, 1) := by decide +kernel
theorem kd_M_operand_69 : decode b_M_operand 69 = .ok (.aload_n 0, 1) := by decide +kernel
theorem kd_M_operand_70 : decode b_M_operand 70 = .ok (.getfield 151, 3) := by decide +kernel
theorem kd_M_operand_73 : decode b_M_operand 73 = .ok (.iload_n 3, 1) := by decide +kernel
theorem kd_M_operand_74 : decode b_M_operand 74 = .ok (.invokevirtual 106, 3) := by decide +kernel
theorem kd_M_operand_77 : decode b_M_operand 77 = .ok (.lreturn, 1) := by decide +kernel
noncomputable def f_M_operand_68 (s0 : ZS) (l3 : Int32) : Option (Int64 × ZS) :=
  (f_M_read s0 (s0 0 21) l3).bind fun p1 =>
  some (p1.1, p1.2)
noncomputable def f_M_operand_58 (s0 : ZS) (l3 : Int32) (t0 : Int32) : Option (Int64 × ZS) :=
  (f_M_cut s0 (t0.toInt64) l3).bind fun p3 =>
  some (p3.1, p3.2)
noncomputable def f_M_operand_26 (s0 : ZS) (l3 : Int32) (t0 : Int64) : Option (Int64 × ZS) :=
  (f_M_cut s0 t0 l3).bind fun p5 =>
  some (p5.1, p5.2)
noncomputable def f_M_operand (s0 : ZS) (x1 : Int32) (x2 : Int32) (x3 : Int32) : Option (Int64 × ZS) :=
  if 2 ≤ x1 then
    if x1 = 6 then
      if x2 = 2 then
        if x3 = 2 then
          (f_M_fetchLong s0 ).bind fun p4 =>
          f_M_operand_58 p4.2 x3 p4.1
        else
          (f_M_fetch s0 ).bind fun p2 =>
          f_M_operand_58 p2.2 x3 p2.1
      else
        f_M_operand_68 s0 x3
    else
      f_M_operand_68 s0 x3
  else
    if x1 = 0 then
      if x2 < 0 ∨ 8 ≤ x2.toNatClampNeg then none else
      f_M_operand_26 s0 x3 (((s0 2 x2.toNatClampNeg).toInt64))
    else
      if x2 < 0 ∨ 8 ≤ x2.toNatClampNeg then none else
      f_M_operand_26 s0 x3 (((s0 3 x2.toNatClampNeg).toInt64))
theorem j_M_operand_68 {P : ZP} {E : ZE} {A : Nat → Prop} (X : ZX E (zmV P) A "FrameMachineModel" b_M_operand 5 (some .long) 4 95) (s0 : ZS) (l3 : Int32) : ZJ E (zmV P) A 5 (zFl E (zmV P) A) 68 [(0, .ref (P.1 0)), (3, .int l3)] [] s0 (f_M_operand_68 s0 l3) := by
  unfold f_M_operand_68
  refine zj_aload_n 69 0 X kd_M_operand_68 rfl rfl rfl ?_
  refine zj_aload_n 70 0 X kd_M_operand_69 rfl rfl rfl ?_
  refine gf_M_151 73 X kd_M_operand_70 rfl ?_
  refine zj_iload_n 74 1 X kd_M_operand_73 rfl rfl rfl ?_
  refine mc_M_106 77 X kd_M_operand_74 (Nat.le_of_ble_eq_true rfl) (Nat.le_of_ble_eq_true rfl) (Nat.le_of_ble_eq_true rfl) rfl (fun p1 => ?_)
  exact zj_lret X kd_M_operand_77
theorem j_M_operand_58 {P : ZP} {E : ZE} {A : Nat → Prop} (X : ZX E (zmV P) A "FrameMachineModel" b_M_operand 5 (some .long) 4 95) (s0 : ZS) (l3 : Int32) (t0 : Int32) : ZJ E (zmV P) A 5 (zFl E (zmV P) A) 58 [(3, .int l3)] [.int t0] s0 (f_M_operand_58 s0 l3 t0) := by
  unfold f_M_operand_58
  refine zj_istore 60 [(4, .int t0), (3, .int l3)] X kd_M_operand_58 (Nat.le_of_ble_eq_true rfl) rfl rfl ?_
  refine zj_iload 62 0 X kd_M_operand_60 rfl rfl ?_
  refine zj_i2l 63 X kd_M_operand_62 rfl ?_
  refine zj_iload_n 64 1 X kd_M_operand_63 rfl rfl rfl ?_
  refine mc_M_161 67 X kd_M_operand_64 (Nat.le_of_ble_eq_true rfl) (Nat.le_of_ble_eq_true rfl) (Nat.le_of_ble_eq_true rfl) rfl (fun p3 => ?_)
  exact zj_lret X kd_M_operand_67
theorem j_M_operand_26 {P : ZP} {E : ZE} {A : Nat → Prop} (X : ZX E (zmV P) A "FrameMachineModel" b_M_operand 5 (some .long) 4 95) (s0 : ZS) (l3 : Int32) (t0 : Int64) : ZJ E (zmV P) A 5 (zFl E (zmV P) A) 26 [(3, .int l3)] [.long t0] s0 (f_M_operand_26 s0 l3 t0) := by
  unfold f_M_operand_26
  refine zj_iload_n 27 0 X kd_M_operand_26 rfl rfl rfl ?_
  refine mc_M_161 30 X kd_M_operand_27 (Nat.le_of_ble_eq_true rfl) (Nat.le_of_ble_eq_true rfl) (Nat.le_of_ble_eq_true rfl) rfl (fun p5 => ?_)
  exact zj_lret X kd_M_operand_30
theorem j_M_operand {P : ZP} {E : ZE} {A : Nat → Prop} (X : ZX E (zmV P) A "FrameMachineModel" b_M_operand 5 (some .long) 4 95) (s0 : ZS) (x1 : Int32) (x2 : Int32) (x3 : Int32) : ZJ E (zmV P) A 5 (zFl E (zmV P) A) 0 [(0, .ref (P.1 0)), (1, .int x1), (2, .int x2), (3, .int x3)] [] s0 (f_M_operand s0 x1 x2 x3) := by
  unfold f_M_operand
  refine zj_iload_n 1 1 X kd_M_operand_0 rfl rfl rfl ?_
  refine zj_iconst 2 2 X kd_M_operand_1 ki_2 rfl ?_
  refine zj_icmp_ge 31 5 X kd_M_operand_2 rfl rfl (fun _ => ?_) (fun _ => ?_)
  · refine zj_iload_n 32 1 X kd_M_operand_31 rfl rfl rfl ?_
    refine zj_bipush 34 6 X kd_M_operand_32 kb_6 rfl ?_
    refine zj_icmp_ne 68 37 X kd_M_operand_34 rfl rfl (fun _ => ?_) (fun _ => ?_)
    · refine zj_iload_n 38 2 X kd_M_operand_37 rfl rfl rfl ?_
      refine zj_iconst 39 2 X kd_M_operand_38 ki_2 rfl ?_
      refine zj_icmp_ne 68 42 X kd_M_operand_39 rfl rfl (fun _ => ?_) (fun _ => ?_)
      · refine zj_iload_n 43 3 X kd_M_operand_42 rfl rfl rfl ?_
        refine zj_iconst 44 2 X kd_M_operand_43 ki_2 rfl ?_
        refine zj_icmp_ne 54 47 X kd_M_operand_44 rfl rfl (fun _ => ?_) (fun _ => ?_)
        · refine zj_aload_n 48 0 X kd_M_operand_47 rfl rfl rfl ?_
          refine mc_M_158 51 X kd_M_operand_48 (Nat.le_of_ble_eq_true rfl) (Nat.le_of_ble_eq_true rfl) (Nat.le_of_ble_eq_true rfl) rfl (fun p4 => ?_)
          refine zj_goto 58 X kd_M_operand_51 rfl ?_
          refine zj_loc [3] (L2 := [(3, .int x3)]) rfl ?_
          exact j_M_operand_58 X p4.2 x3 p4.1
        · refine zj_aload_n 55 0 X kd_M_operand_54 rfl rfl rfl ?_
          refine mc_M_110 58 X kd_M_operand_55 (Nat.le_of_ble_eq_true rfl) (Nat.le_of_ble_eq_true rfl) (Nat.le_of_ble_eq_true rfl) rfl (fun p2 => ?_)
          refine zj_loc [3] (L2 := [(3, .int x3)]) rfl ?_
          exact j_M_operand_58 X p2.2 x3 p2.1
      · refine zj_loc [0, 3] (L2 := [(0, .ref (P.1 0)), (3, .int x3)]) rfl ?_
        exact j_M_operand_68 X s0 x3
    · refine zj_loc [0, 3] (L2 := [(0, .ref (P.1 0)), (3, .int x3)]) rfl ?_
      exact j_M_operand_68 X s0 x3
  · refine zj_iload_n 6 1 X kd_M_operand_5 rfl rfl rfl ?_
    refine zj_if_ne 19 9 X kd_M_operand_6 rfl rfl (fun _ => ?_) (fun _ => ?_)
    · refine zj_aload_n 10 0 X kd_M_operand_9 rfl rfl rfl ?_
      refine gf_M_13 13 X kd_M_operand_10 rfl ?_
      refine zj_iload_n 14 2 X kd_M_operand_13 rfl rfl rfl ?_
      refine zj_ng (fun hg => ?_)
      refine al_M_2 15 X kd_M_operand_14 hg rfl ?_
      refine zj_i2l 16 X kd_M_operand_15 rfl ?_
      refine zj_goto 26 X kd_M_operand_16 rfl ?_
      refine zj_loc [3] (L2 := [(3, .int x3)]) rfl ?_
      exact j_M_operand_26 X s0 x3 (((s0 2 x2.toNatClampNeg).toInt64))
    · refine zj_aload_n 20 0 X kd_M_operand_19 rfl rfl rfl ?_
      refine gf_M_16 23 X kd_M_operand_20 rfl ?_
      refine zj_iload_n 24 2 X kd_M_operand_23 rfl rfl rfl ?_
      refine zj_ng (fun hg => ?_)
      refine al_M_3 25 X kd_M_operand_24 hg rfl ?_
      refine zj_i2l 26 X kd_M_operand_25 rfl ?_
      refine zj_loc [3] (L2 := [(3, .int x3)]) rfl ?_
      exact j_M_operand_26 X s0 x3 (((s0 3 x2.toNatClampNeg).toInt64))
theorem c_M_operand {l : Launch} {P : ZP} (hV : ZVok (zmV P)) (s0 : ZS) (x1 : Int32) (x2 : Int32) (x3 : Int32) {z : Int64 × ZS} (h : f_M_operand s0 x1 x2 x3 = some z) : zMl l y_M_operand b_M_operand 5 (some .long) 4 95 (zmV P) s0 [.ref (P.1 0), .int x1, .int x2, .int x3] z :=
  zMl_of (by decide +kernel) rfl rfl (Nat.le_of_ble_eq_true rfl) hV (fun _ X => j_M_operand X s0 x1 x2 x3) h
theorem kc_M_200 : zCV "FrameMachineModel" 200 y_M_operand b_M_operand 5 (some .long) 3 := ⟨⟨kw_1037, kw_1039, ksel_55, kw_11, kw_1040⟩, by decide +kernel, by decide +kernel, by decide +kernel⟩
theorem mc_M_200 {ρ : Type} {E : ZE} {P : ZP} {A : Nat → Prop} {cc : ByteArray} {nL : Nat} {ret : Option FieldType} {fr lo : Nat} {F : ρ → State → Prop} {pc : Nat} {L : List (Nat × Value)} {rest : List Value} {σ : ZS} {x1 : Int32} {x2 : Int32} {x3 : Int32} {K : Int64 × ZS → Option ρ} (q : Nat) (X : ZX E (zmV P) A "FrameMachineModel" cc nL ret fr lo) (d : decode cc pc = .ok (.invokevirtual 200, 3)) (hfr : 4 + 1 ≤ fr) (hlo : 8 + (5 + 11) + 95 ≤ lo) (hr : (rest.map fun v => v.category).sum ≤ 8) (hq : pc + 3 = q) (kk : ∀ p : Int64 × ZS, ZJ E (zmV P) A nL F q L (.long p.1 :: rest) p.2 (K p)) : ZJ E (zmV P) A nL F pc L (.int x3 :: .int x2 :: .int x1 :: .ref (P.1 0) :: rest) σ ((f_M_operand σ x1 x2 x3).bind K) :=
  zj_cVl q 0 0 (As := [.int x1, .int x2, .int x3]) (rest := rest) X kc_M_200 hfr hlo (fun p h => c_M_operand (zx_v X) σ x1 x2 x3 h) rfl rfl rfl hr d hq kk
-- FrameMachineModel.setD(IIJ)V
theorem kd_M_setD_0 : decode b_M_setD 0 = .ok (.aload_n 0, 1) := by decide +kernel
theorem kd_M_setD_1 : decode b_M_setD 1 = .ok (.getfield 64, 3) := by decide +kernel
theorem kd_M_setD_4 : decode b_M_setD 4 = .ok (.ifCond .ne 42, 3) := by decide +kernel
theorem kd_M_setD_7 : decode b_M_setD 7 = .ok (.aload_n 0, 1) := by decide +kernel
theorem kd_M_setD_8 : decode b_M_setD 8 = .ok (.getfield 13, 3) := by decide +kernel
theorem kd_M_setD_11 : decode b_M_setD 11 = .ok (.iload_n 1, 1) := by decide +kernel
theorem kd_M_setD_12 : decode b_M_setD 12 = .ok (.iload_n 2, 1) := by decide +kernel
theorem kd_M_setD_13 : decode b_M_setD 13 = .ok (.iconst 2, 1) := by decide +kernel
theorem kd_M_setD_14 : decode b_M_setD 14 = .ok (.if_icmp .ne 8, 3) := by decide +kernel
theorem kd_M_setD_17 : decode b_M_setD 17 = .ok (.lload_n 3, 1) := by decide +kernel
theorem kd_M_setD_18 : decode b_M_setD 18 = .ok (.l2i, 1) := by decide +kernel
theorem kd_M_setD_19 : decode b_M_setD 19 = .ok (.goto 26, 3) := by decide +kernel
theorem kd_M_setD_22 : decode b_M_setD 22 = .ok (.aload_n 0, 1) := by decide +kernel
theorem kd_M_setD_23 : decode b_M_setD 23 = .ok (.getfield 13, 3) := by decide +kernel
theorem kd_M_setD_26 : decode b_M_setD 26 = .ok (.iload_n 1, 1) := by decide +kernel
theorem kd_M_setD_27 : decode b_M_setD 27 = .ok (.iaload, 1) := by decide +kernel
theorem kd_M_setD_28 : decode b_M_setD 28 = .ok (.i2l, 1) := by decide +kernel
theorem kd_M_setD_29 : decode b_M_setD 29 = .ok (.iload_n 2, 1) := by decide +kernel
theorem kd_M_setD_30 : decode b_M_setD 30 = .ok (.invokestatic 41, 3) := by decide +kernel
theorem kd_M_setD_33 : decode b_M_setD 33 = .ok (.ldc2_w 165, 3) := by decide +kernel
theorem kd_M_setD_36 : decode b_M_setD 36 = .ok (.lxor, 1) := by decide +kernel
theorem kd_M_setD_37 : decode b_M_setD 37 = .ok (.land, 1) := by decide +kernel
theorem kd_M_setD_38 : decode b_M_setD 38 = .ok (.lload_n 3, 1) := by decide +kernel
theorem kd_M_setD_39 : decode b_M_setD 39 = .ok (.iload_n 2, 1) := by decide +kernel
theorem kd_M_setD_40 : decode b_M_setD 40 = .ok (.invokestatic 161, 3) := by decide +kernel
theorem kd_M_setD_43 : decode b_M_setD 43 = .ok (.lor, 1) := by decide +kernel
theorem kd_M_setD_44 : decode b_M_setD 44 = .ok (.l2i, 1) := by decide +kernel
theorem kd_M_setD_45 : decode b_M_setD 45 = .ok (.iastore, 1) := by decide +kernel
theorem kd_M_setD_46 : decode b_M_setD 46 = .ok (.return_, 1) := by decide +kernel
noncomputable def f_M_setD_45 (s0 : ZS) (t0 : Int32) (t1 : Int32) : Option (ZS) :=
  if t1 < 0 ∨ 8 ≤ t1.toNatClampNeg then none else
  zs_nm (zs_up s0 2 t1.toNatClampNeg t0) fun s3 =>
  some s3
noncomputable def f_M_setD (s0 : ZS) (x1 : Int32) (x2 : Int32) (x3 : Int64) : Option (ZS) :=
  if (s0 0 15) = 0 then
    if x2 = 2 then
      f_M_setD_45 s0 ((x3.toInt32)) x1
    else
      if x1 < 0 ∨ 8 ≤ x1.toNatClampNeg then none else
      (f_M_whole s0 x2).bind fun p1 =>
      (f_M_cut p1.2 x3 x2).bind fun p2 =>
      f_M_setD_45 p2.2 ((((((s0 2 x1.toNatClampNeg).toInt64) &&& (p1.1 ^^^ ((-1)))) ||| p2.1).toInt32)) x1
  else
    some s0
theorem j_M_setD_45 {P : ZP} {E : ZE} {A : Nat → Prop} (X : ZX E (zmV P) A "FrameMachineModel" b_M_setD 5 none 2 42) (s0 : ZS) (t0 : Int32) (t1 : Int32) : ZJ E (zmV P) A 5 (zFv E (zmV P) A) 45 [] [.int t0, .int t1, .ref (P.1 2)] s0 (f_M_setD_45 s0 t0 t1) := by
  unfold f_M_setD_45
  refine zj_ng (fun hg => ?_)
  refine as_M_2 46 X kd_M_setD_45 hg rfl ?_
  refine zj_nms (fun s3 => ?_)
  exact zj_vret X kd_M_setD_46
theorem j_M_setD {P : ZP} {E : ZE} {A : Nat → Prop} (X : ZX E (zmV P) A "FrameMachineModel" b_M_setD 5 none 2 42) (s0 : ZS) (x1 : Int32) (x2 : Int32) (x3 : Int64) : ZJ E (zmV P) A 5 (zFv E (zmV P) A) 0 [(0, .ref (P.1 0)), (1, .int x1), (2, .int x2), (3, .long x3)] [] s0 (f_M_setD s0 x1 x2 x3) := by
  unfold f_M_setD
  refine zj_aload_n 1 0 X kd_M_setD_0 rfl rfl rfl ?_
  refine gf_M_64 4 X kd_M_setD_1 rfl ?_
  refine zj_if_ne 46 7 X kd_M_setD_4 rfl rfl (fun _ => ?_) (fun _ => ?_)
  · refine zj_aload_n 8 0 X kd_M_setD_7 rfl rfl rfl ?_
    refine gf_M_13 11 X kd_M_setD_8 rfl ?_
    refine zj_iload_n 12 1 X kd_M_setD_11 rfl rfl rfl ?_
    refine zj_iload_n 13 2 X kd_M_setD_12 rfl rfl rfl ?_
    refine zj_iconst 14 2 X kd_M_setD_13 ki_2 rfl ?_
    refine zj_icmp_ne 22 17 X kd_M_setD_14 rfl rfl (fun _ => ?_) (fun _ => ?_)
    · refine zj_lload_n 18 3 X kd_M_setD_17 rfl rfl rfl ?_
      refine zj_l2i 19 X kd_M_setD_18 rfl ?_
      refine zj_goto 45 X kd_M_setD_19 rfl ?_
      refine zj_loc [] (L2 := []) rfl ?_
      exact j_M_setD_45 X s0 ((x3.toInt32)) x1
    · refine zj_aload_n 23 0 X kd_M_setD_22 rfl rfl rfl ?_
      refine gf_M_13 26 X kd_M_setD_23 rfl ?_
      refine zj_iload_n 27 1 X kd_M_setD_26 rfl rfl rfl ?_
      refine zj_ng (fun hg => ?_)
      refine al_M_2 28 X kd_M_setD_27 hg rfl ?_
      refine zj_i2l 29 X kd_M_setD_28 rfl ?_
      refine zj_iload_n 30 2 X kd_M_setD_29 rfl rfl rfl ?_
      refine mc_M_41 33 X kd_M_setD_30 (Nat.le_of_ble_eq_true rfl) (Nat.le_of_ble_eq_true rfl) (Nat.le_of_ble_eq_true rfl) rfl (fun p1 => ?_)
      refine zj_ldc2 36 ((-1)) X kd_M_setD_33 kw_997 rfl ?_
      refine zj_lxor 37 X kd_M_setD_36 rfl ?_
      refine zj_land 38 X kd_M_setD_37 rfl ?_
      refine zj_lload_n 39 3 X kd_M_setD_38 rfl rfl rfl ?_
      refine zj_iload_n 40 2 X kd_M_setD_39 rfl rfl rfl ?_
      refine mc_M_161 43 X kd_M_setD_40 (Nat.le_of_ble_eq_true rfl) (Nat.le_of_ble_eq_true rfl) (Nat.le_of_ble_eq_true rfl) rfl (fun p2 => ?_)
      refine zj_lor 44 X kd_M_setD_43 rfl ?_
      refine zj_l2i 45 X kd_M_setD_44 rfl ?_
      refine zj_loc [] (L2 := []) rfl ?_
      exact j_M_setD_45 X p2.2 ((((((s0 2 x1.toNatClampNeg).toInt64) &&& (p1.1 ^^^ ((-1)))) ||| p2.1).toInt32)) x1
  · exact zj_vret X kd_M_setD_46
theorem c_M_setD {l : Launch} {P : ZP} (hV : ZVok (zmV P)) (s0 : ZS) (x1 : Int32) (x2 : Int32) (x3 : Int64) {z : ZS} (h : f_M_setD s0 x1 x2 x3 = some z) : zMv l y_M_setD b_M_setD 5 none 2 42 (zmV P) s0 [.ref (P.1 0), .int x1, .int x2, .long x3] z :=
  zMv_of (by decide +kernel) rfl rfl (Nat.le_of_ble_eq_true rfl) hV (fun _ X => j_M_setD X s0 x1 x2 x3) h
theorem kc_M_167 : zCV "FrameMachineModel" 167 y_M_setD b_M_setD 5 none 3 := ⟨⟨kw_993, kw_995, ksel_45, kw_11, kw_996⟩, by decide +kernel, by decide +kernel, by decide +kernel⟩
theorem mc_M_167 {ρ : Type} {E : ZE} {P : ZP} {A : Nat → Prop} {cc : ByteArray} {nL : Nat} {ret : Option FieldType} {fr lo : Nat} {F : ρ → State → Prop} {pc : Nat} {L : List (Nat × Value)} {rest : List Value} {σ : ZS} {x1 : Int32} {x2 : Int32} {x3 : Int64} {K : ZS → Option ρ} (q : Nat) (X : ZX E (zmV P) A "FrameMachineModel" cc nL ret fr lo) (d : decode cc pc = .ok (.invokevirtual 167, 3)) (hfr : 2 + 1 ≤ fr) (hlo : 8 + (5 + 11) + 42 ≤ lo) (hr : (rest.map fun v => v.category).sum ≤ 8) (hq : pc + 3 = q) (kk : ∀ p : ZS, ZJ E (zmV P) A nL F q L (rest) p (K p)) : ZJ E (zmV P) A nL F pc L (.long x3 :: .int x2 :: .int x1 :: .ref (P.1 0) :: rest) σ ((f_M_setD σ x1 x2 x3).bind K) :=
  zj_cVv q 0 0 (As := [.int x1, .int x2, .long x3]) (rest := rest) X kc_M_167 hfr hlo (fun p h => c_M_setD (zx_v X) σ x1 x2 x3 h) rfl rfl rfl hr d hq kk
-- FrameMachineModel.put(IIIJ)V
theorem kd_M_put_0 : decode b_M_put 0 = .ok (.iload_n 1, 1) := by decide +kernel
theorem kd_M_put_1 : decode b_M_put 1 = .ok (.ifCond .ne 14, 3) := by decide +kernel
theorem kd_M_put_4 : decode b_M_put 4 = .ok (.aload_n 0, 1) := by decide +kernel
theorem kd_M_put_5 : decode b_M_put 5 = .ok (.iload_n 2, 1) := by decide +kernel
theorem kd_M_put_6 : decode b_M_put 6 = .ok (.iload_n 3, 1) := by decide +kernel
theorem kd_M_put_7 : decode b_M_put 7 = .ok (.lload 4, 2) := by decide +kernel
theorem kd_M_put_9 : decode b_M_put 9 = .ok (.invokevirtual 167, 3) := by decide +kernel
theorem kd_M_put_12 : decode b_M_put 12 = .ok (.goto 21, 3) := by decide +kernel
theorem kd_M_put_15 : decode b_M_put 15 = .ok (.aload_n 0, 1) := by decide +kernel
theorem kd_M_put_16 : decode b_M_put 16 = .ok (.getfield 64, 3) := by decide +kernel
theorem kd_M_put_19 : decode b_M_put 19 = .ok (.ifCond .ne 14, 3) := by decide +kernel
theorem kd_M_put_22 : decode b_M_put 22 = .ok (.aload_n 0, 1) := by decide +kernel
theorem kd_M_put_23 : decode b_M_put 23 = .ok (.aload_n 0, 1) := by decide +kernel
theorem kd_M_put_24 : decode b_M_put 24 = .ok (.getfield 151, 3) := by decide +kernel
theorem kd_M_put_27 : decode b_M_put 27 = .ok (.iload_n 3, 1) := by decide +kernel
theorem kd_M_put_28 : decode b_M_put 28 = .ok (.lload 4, 2) := by decide +kernel
theorem kd_M_put_30 : decode b_M_put 30 = .ok (.invokevirtual 114, 3) := by decide +kernel
theorem kd_M_put_33 : decode b_M_put 33 = .ok (.return_, 1) := by decide +kernel
noncomputable def f_M_put (s0 : ZS) (x1 : Int32) (x2 : Int32) (x3 : Int32) (x4 : Int64) : Option (ZS) :=
  if x1 = 0 then
    (f_M_setD s0 x2 x3 x4).bind fun s2 =>
    some s2
  else
    if (s0 0 15) = 0 then
      (f_M_write s0 (s0 0 21) x3 x4).bind fun s1 =>
      some s1
    else
      some s0
theorem j_M_put {P : ZP} {E : ZE} {A : Nat → Prop} (X : ZX E (zmV P) A "FrameMachineModel" b_M_put 6 none 3 66) (s0 : ZS) (x1 : Int32) (x2 : Int32) (x3 : Int32) (x4 : Int64) : ZJ E (zmV P) A 6 (zFv E (zmV P) A) 0 [(0, .ref (P.1 0)), (1, .int x1), (2, .int x2), (3, .int x3), (4, .long x4)] [] s0 (f_M_put s0 x1 x2 x3 x4) := by
  unfold f_M_put
  refine zj_iload_n 1 1 X kd_M_put_0 rfl rfl rfl ?_
  refine zj_if_ne 15 4 X kd_M_put_1 rfl rfl (fun _ => ?_) (fun _ => ?_)
  · refine zj_aload_n 5 0 X kd_M_put_4 rfl rfl rfl ?_
    refine zj_iload_n 6 2 X kd_M_put_5 rfl rfl rfl ?_
    refine zj_iload_n 7 3 X kd_M_put_6 rfl rfl rfl ?_
    refine zj_lload 9 4 X kd_M_put_7 rfl rfl ?_
    refine mc_M_167 12 X kd_M_put_9 (Nat.le_of_ble_eq_true rfl) (Nat.le_of_ble_eq_true rfl) (Nat.le_of_ble_eq_true rfl) rfl (fun s2 => ?_)
    refine zj_goto 33 X kd_M_put_12 rfl ?_
    exact zj_vret X kd_M_put_33
  · refine zj_aload_n 16 0 X kd_M_put_15 rfl rfl rfl ?_
    refine gf_M_64 19 X kd_M_put_16 rfl ?_
    refine zj_if_ne 33 22 X kd_M_put_19 rfl rfl (fun _ => ?_) (fun _ => ?_)
    · refine zj_aload_n 23 0 X kd_M_put_22 rfl rfl rfl ?_
      refine zj_aload_n 24 0 X kd_M_put_23 rfl rfl rfl ?_
      refine gf_M_151 27 X kd_M_put_24 rfl ?_
      refine zj_iload_n 28 3 X kd_M_put_27 rfl rfl rfl ?_
      refine zj_lload 30 4 X kd_M_put_28 rfl rfl ?_
      refine mc_M_114 33 X kd_M_put_30 (Nat.le_of_ble_eq_true rfl) (Nat.le_of_ble_eq_true rfl) (Nat.le_of_ble_eq_true rfl) rfl (fun s1 => ?_)
      exact zj_vret X kd_M_put_33
    · exact zj_vret X kd_M_put_33
theorem c_M_put {l : Launch} {P : ZP} (hV : ZVok (zmV P)) (s0 : ZS) (x1 : Int32) (x2 : Int32) (x3 : Int32) (x4 : Int64) {z : ZS} (h : f_M_put s0 x1 x2 x3 x4 = some z) : zMv l y_M_put b_M_put 6 none 3 66 (zmV P) s0 [.ref (P.1 0), .int x1, .int x2, .int x3, .long x4] z :=
  zMv_of (by decide +kernel) rfl rfl (Nat.le_of_ble_eq_true rfl) hV (fun _ X => j_M_put X s0 x1 x2 x3 x4) h
theorem kc_M_196 : zCV "FrameMachineModel" 196 y_M_put b_M_put 6 none 4 := ⟨⟨kw_1033, kw_1035, ksel_54, kw_11, kw_1036⟩, by decide +kernel, by decide +kernel, by decide +kernel⟩
theorem mc_M_196 {ρ : Type} {E : ZE} {P : ZP} {A : Nat → Prop} {cc : ByteArray} {nL : Nat} {ret : Option FieldType} {fr lo : Nat} {F : ρ → State → Prop} {pc : Nat} {L : List (Nat × Value)} {rest : List Value} {σ : ZS} {x1 : Int32} {x2 : Int32} {x3 : Int32} {x4 : Int64} {K : ZS → Option ρ} (q : Nat) (X : ZX E (zmV P) A "FrameMachineModel" cc nL ret fr lo) (d : decode cc pc = .ok (.invokevirtual 196, 3)) (hfr : 3 + 1 ≤ fr) (hlo : 8 + (6 + 11) + 66 ≤ lo) (hr : (rest.map fun v => v.category).sum ≤ 8) (hq : pc + 3 = q) (kk : ∀ p : ZS, ZJ E (zmV P) A nL F q L (rest) p (K p)) : ZJ E (zmV P) A nL F pc L (.long x4 :: .int x3 :: .int x2 :: .int x1 :: .ref (P.1 0) :: rest) σ ((f_M_put σ x1 x2 x3 x4).bind K) :=
  zj_cVv q 0 0 (As := [.int x1, .int x2, .int x3, .long x4]) (rest := rest) X kc_M_196 hfr hlo (fun p h => c_M_put (zx_v X) σ x1 x2 x3 x4 h) rfl rfl rfl hr d hq kk
-- FrameMachineModel.sum(JJI)J
theorem kd_M_sum_0 : decode b_M_sum 0 = .ok (.lload_n 1, 1) := by decide +kernel
theorem kd_M_sum_1 : decode b_M_sum 1 = .ok (.lload_n 3, 1) := by decide +kernel
theorem kd_M_sum_2 : decode b_M_sum 2 = .ok (.ladd, 1) := by decide +kernel
theorem kd_M_sum_3 : decode b_M_sum 3 = .ok (.iload 5, 2) := by decide +kernel
theorem kd_M_sum_5 : decode b_M_sum 5 = .ok (.invokestatic 161, 3) := by decide +kernel
theorem kd_M_sum_8 : decode b_M_sum 8 = .ok (.lstore 6, 2) := by decide +kernel
theorem kd_M_sum_10 : decode b_M_sum 10 = .ok (.aload_n 0, 1) := by decide +kernel
theorem kd_M_sum_11 : decode b_M_sum 11 = .ok (.lload 6, 2) := by decide +kernel
theorem kd_M_sum_13 : decode b_M_sum 13 = .ok (.iload 5, 2) := by decide +kernel
theorem kd_M_sum_15 : decode b_M_sum 15 = .ok (.invokevirtual 170, 3) := by decide +kernel
theorem kd_M_sum_18 : decode b_M_sum 18 = .ok (.aload_n 0, 1) := by decide +kernel
theorem kd_M_sum_19 : decode b_M_sum 19 = .ok (.lload_n 1, 1) := by decide +kernel
theorem kd_M_sum_20 : decode b_M_sum 20 = .ok (.lload_n 3, 1) := by decide +kernel
theorem kd_M_sum_21 : decode b_M_sum 21 = .ok (.ladd, 1) := by decide +kernel
theorem kd_M_sum_22 : decode b_M_sum 22 = .ok (.iload 5, 2) := by decide +kernel
theorem kd_M_sum_24 : decode b_M_sum 24 = .ok (.invokestatic 41, 3) := by decide +kernel
theorem kd_M_sum_27 : decode b_M_sum 27 = .ok (.lcmp, 1) := by decide +kernel
theorem kd_M_sum_28 : decode b_M_sum 28 = .ok (.ifCond .le 7, 3) := by decide +kernel
theorem kd_M_sum_31 : decode b_M_sum 31 = .ok (.iconst 1, 1) := by decide +kernel
theorem kd_M_sum_32 : decode b_M_sum 32 = .ok (.goto 4, 3) := by decide +kernel
theorem kd_M_sum_35 : decode b_M_sum 35 = .ok (.iconst 0, 1) := by decide +kernel
theorem kd_M_sum_36 : decode b_M_sum 36 = .ok (.putfield 134, 3) := by decide +kernel
theorem kd_M_sum_39 : decode b_M_sum 39 = .ok (.aload_n 0, 1) := by decide +kernel
theorem kd_M_sum_40 : decode b_M_sum 40 = .ok (.aload_n 0, 1) := by decide +kernel
theorem kd_M_sum_41 : decode b_M_sum 41 = .ok (.getfield 134, 3) := by decide +kernel
theorem kd_M_sum_44 : decode b_M_sum 44 = .ok (.putfield 122, 3) := by decide +kernel
theorem kd_M_sum_47 : decode b_M_sum 47 = .ok (.aload_n 0, 1) := by decide +kernel
theorem kd_M_sum_48 : decode b_M_sum 48 = .ok (.lload_n 1, 1) := by decide +kernel
theorem kd_M_sum_49 : decode b_M_sum 49 = .ok (.lload 6, 2) := by decide +kernel
theorem kd_M_sum_51 : decode b_M_sum 51 = .ok (.lxor, 1) := by decide +kernel
theorem kd_M_sum_52 : decode b_M_sum 52 = .ok (.lload_n 3, 1) := by decide +kernel
theorem kd_M_sum_53 : decode b_M_sum 53 = .ok (.lload 6, 2) := by decide +kernel
theorem kd_M_sum_55 : decode b_M_sum 55 = .ok (.lxor, 1) := by decide +kernel
theorem kd_M_sum_56 : decode b_M_sum 56 = .ok (.land, 1) := by decide +kernel
theorem kd_M_sum_57 : decode b_M_sum 57 = .ok (.iload 5, 2) := by decide +kernel
theorem kd_M_sum_59 : decode b_M_sum 59 = .ok (.invokestatic 144, 3) := by decide +kernel
theorem kd_M_sum_62 : decode b_M_sum 62 = .ok (.iconst 1, 1) := by decide +kernel
theorem kd_M_sum_63 : decode b_M_sum 63 = .ok (.isub, 1) := by decide +kernel
theorem kd_M_sum_64 : decode b_M_sum 64 = .ok (.lshr, 1) := by decide +kernel
theorem kd_M_sum_65 : decode b_M_sum 65 = .ok (.lconst 1, 1) := by decide +kernel
theorem kd_M_sum_66 : decode b_M_sum 66 = .ok (.land, 1) := by decide +kernel
theorem kd_M_sum_67 : decode b_M_sum 67 = .ok (.l2i, 1) := by decide +kernel
theorem kd_M_sum_68 : decode b_M_sum 68 = .ok (.putfield 131, 3) := by decide +kernel
theorem kd_M_sum_71 : decode b_M_sum 71 = .ok (.lload 6, 2) := by decide +kernel
theorem kd_M_sum_73 : decode b_M_sum 73 = .ok (.lreturn, 1) := by decide +kernel
noncomputable def f_M_sum_36 (s0 : ZS) (l1 : Int64) (l3 : Int64) (l5 : Int32) (l6 : Int64) (t0 : Int32) : Option (Int64 × ZS) :=
  zs_nm (zs_up s0 0 10 t0) fun s4 =>
  zs_nm (zs_up s4 0 6 (s4 0 10)) fun s5 =>
  (f_M_bits s5 l5).bind fun p6 =>
  zs_nm (zs_up p6.2 0 9 (((zo_lshr ((l1 ^^^ l6) &&& (l3 ^^^ l6)) (p6.1 - 1)) &&& 1).toInt32)) fun s7 =>
  some (l6, s7)
noncomputable def f_M_sum (s0 : ZS) (x1 : Int64) (x2 : Int64) (x3 : Int32) : Option (Int64 × ZS) :=
  (f_M_cut s0 (x1 + x2) x3).bind fun p1 =>
  (f_M_tells p1.2 p1.1 x3).bind fun s2 =>
  (f_M_whole s2 x3).bind fun p3 =>
  if (lg_cmp (x1 + x2) p3.1) ≤ 0 then
    f_M_sum_36 p3.2 x1 x2 x3 p1.1 0
  else
    f_M_sum_36 p3.2 x1 x2 x3 p1.1 1
theorem j_M_sum_36 {P : ZP} {E : ZE} {A : Nat → Prop} (X : ZX E (zmV P) A "FrameMachineModel" b_M_sum 8 (some .long) 2 43) (s0 : ZS) (l1 : Int64) (l3 : Int64) (l5 : Int32) (l6 : Int64) (t0 : Int32) : ZJ E (zmV P) A 8 (zFl E (zmV P) A) 36 [(0, .ref (P.1 0)), (1, .long l1), (3, .long l3), (5, .int l5), (6, .long l6)] [.int t0, .ref (P.1 0)] s0 (f_M_sum_36 s0 l1 l3 l5 l6 t0) := by
  unfold f_M_sum_36
  refine pf_M_134 39 X kd_M_sum_36 rfl ?_
  refine zj_nms (fun s4 => ?_)
  refine zj_aload_n 40 0 X kd_M_sum_39 rfl rfl rfl ?_
  refine zj_aload_n 41 0 X kd_M_sum_40 rfl rfl rfl ?_
  refine gf_M_134 44 X kd_M_sum_41 rfl ?_
  refine pf_M_122 47 X kd_M_sum_44 rfl ?_
  refine zj_nms (fun s5 => ?_)
  refine zj_aload_n 48 0 X kd_M_sum_47 rfl rfl rfl ?_
  refine zj_lload_n 49 1 X kd_M_sum_48 rfl rfl rfl ?_
  refine zj_lload 51 4 X kd_M_sum_49 rfl rfl ?_
  refine zj_lxor 52 X kd_M_sum_51 rfl ?_
  refine zj_lload_n 53 2 X kd_M_sum_52 rfl rfl rfl ?_
  refine zj_lload 55 4 X kd_M_sum_53 rfl rfl ?_
  refine zj_lxor 56 X kd_M_sum_55 rfl ?_
  refine zj_land 57 X kd_M_sum_56 rfl ?_
  refine zj_iload 59 3 X kd_M_sum_57 rfl rfl ?_
  refine mc_M_144 62 X kd_M_sum_59 (Nat.le_of_ble_eq_true rfl) (Nat.le_of_ble_eq_true rfl) (Nat.le_of_ble_eq_true rfl) rfl (fun p6 => ?_)
  refine zj_iconst 63 1 X kd_M_sum_62 ki_1 rfl ?_
  refine zj_isub 64 X kd_M_sum_63 rfl ?_
  refine zj_lshr 65 X kd_M_sum_64 rfl ?_
  refine zj_lconst 66 1 X kd_M_sum_65 rfl rfl ?_
  refine zj_land 67 X kd_M_sum_66 rfl ?_
  refine zj_l2i 68 X kd_M_sum_67 rfl ?_
  refine pf_M_131 71 X kd_M_sum_68 rfl ?_
  refine zj_nms (fun s7 => ?_)
  refine zj_lload 73 4 X kd_M_sum_71 rfl rfl ?_
  exact zj_lret X kd_M_sum_73
theorem j_M_sum {P : ZP} {E : ZE} {A : Nat → Prop} (X : ZX E (zmV P) A "FrameMachineModel" b_M_sum 8 (some .long) 2 43) (s0 : ZS) (x1 : Int64) (x2 : Int64) (x3 : Int32) : ZJ E (zmV P) A 8 (zFl E (zmV P) A) 0 [(0, .ref (P.1 0)), (1, .long x1), (3, .long x2), (5, .int x3)] [] s0 (f_M_sum s0 x1 x2 x3) := by
  unfold f_M_sum
  refine zj_lload_n 1 1 X kd_M_sum_0 rfl rfl rfl ?_
  refine zj_lload_n 2 2 X kd_M_sum_1 rfl rfl rfl ?_
  refine zj_ladd 3 X kd_M_sum_2 rfl ?_
  refine zj_iload 5 3 X kd_M_sum_3 rfl rfl ?_
  refine mc_M_161 8 X kd_M_sum_5 (Nat.le_of_ble_eq_true rfl) (Nat.le_of_ble_eq_true rfl) (Nat.le_of_ble_eq_true rfl) rfl (fun p1 => ?_)
  refine zj_lstore 10 [(6, .long p1.1), (0, .ref (P.1 0)), (1, .long x1), (3, .long x2), (5, .int x3)] X kd_M_sum_8 (Nat.le_of_ble_eq_true rfl) rfl rfl ?_
  refine zj_aload_n 11 1 X kd_M_sum_10 rfl rfl rfl ?_
  refine zj_lload 13 0 X kd_M_sum_11 rfl rfl ?_
  refine zj_iload 15 4 X kd_M_sum_13 rfl rfl ?_
  refine mc_M_170 18 X kd_M_sum_15 (Nat.le_of_ble_eq_true rfl) (Nat.le_of_ble_eq_true rfl) (Nat.le_of_ble_eq_true rfl) rfl (fun s2 => ?_)
  refine zj_aload_n 19 1 X kd_M_sum_18 rfl rfl rfl ?_
  refine zj_lload_n 20 2 X kd_M_sum_19 rfl rfl rfl ?_
  refine zj_lload_n 21 3 X kd_M_sum_20 rfl rfl rfl ?_
  refine zj_ladd 22 X kd_M_sum_21 rfl ?_
  refine zj_iload 24 4 X kd_M_sum_22 rfl rfl ?_
  refine mc_M_41 27 X kd_M_sum_24 (Nat.le_of_ble_eq_true rfl) (Nat.le_of_ble_eq_true rfl) (Nat.le_of_ble_eq_true rfl) rfl (fun p3 => ?_)
  refine zj_lcmp 28 X kd_M_sum_27 rfl ?_
  refine zj_if_le 35 31 X kd_M_sum_28 rfl rfl (fun _ => ?_) (fun _ => ?_)
  · refine zj_iconst 36 0 X kd_M_sum_35 ki_0 rfl ?_
    refine zj_loc [1, 2, 3, 4, 0] (L2 := [(0, .ref (P.1 0)), (1, .long x1), (3, .long x2), (5, .int x3), (6, .long p1.1)]) rfl ?_
    exact j_M_sum_36 X p3.2 x1 x2 x3 p1.1 0
  · refine zj_iconst 32 1 X kd_M_sum_31 ki_1 rfl ?_
    refine zj_goto 36 X kd_M_sum_32 rfl ?_
    refine zj_loc [1, 2, 3, 4, 0] (L2 := [(0, .ref (P.1 0)), (1, .long x1), (3, .long x2), (5, .int x3), (6, .long p1.1)]) rfl ?_
    exact j_M_sum_36 X p3.2 x1 x2 x3 p1.1 1
theorem c_M_sum {l : Launch} {P : ZP} (hV : ZVok (zmV P)) (s0 : ZS) (x1 : Int64) (x2 : Int64) (x3 : Int32) {z : Int64 × ZS} (h : f_M_sum s0 x1 x2 x3 = some z) : zMl l y_M_sum b_M_sum 8 (some .long) 2 43 (zmV P) s0 [.ref (P.1 0), .long x1, .long x2, .int x3] z :=
  zMl_of (by decide +kernel) rfl rfl (Nat.le_of_ble_eq_true rfl) hV (fun _ X => j_M_sum X s0 x1 x2 x3) h
theorem kc_M_207 : zCV "FrameMachineModel" 207 y_M_sum b_M_sum 8 (some .long) 3 := ⟨⟨kw_1056, kw_1058, ksel_59, kw_11, kw_1059⟩, by decide +kernel, by decide +kernel, by decide +kernel⟩
theorem mc_M_207 {ρ : Type} {E : ZE} {P : ZP} {A : Nat → Prop} {cc : ByteArray} {nL : Nat} {ret : Option FieldType} {fr lo : Nat} {F : ρ → State → Prop} {pc : Nat} {L : List (Nat × Value)} {rest : List Value} {σ : ZS} {x1 : Int64} {x2 : Int64} {x3 : Int32} {K : Int64 × ZS → Option ρ} (q : Nat) (X : ZX E (zmV P) A "FrameMachineModel" cc nL ret fr lo) (d : decode cc pc = .ok (.invokevirtual 207, 3)) (hfr : 2 + 1 ≤ fr) (hlo : 8 + (8 + 11) + 43 ≤ lo) (hr : (rest.map fun v => v.category).sum ≤ 8) (hq : pc + 3 = q) (kk : ∀ p : Int64 × ZS, ZJ E (zmV P) A nL F q L (.long p.1 :: rest) p.2 (K p)) : ZJ E (zmV P) A nL F pc L (.int x3 :: .long x2 :: .long x1 :: .ref (P.1 0) :: rest) σ ((f_M_sum σ x1 x2 x3).bind K) :=
  zj_cVl q 0 0 (As := [.long x1, .long x2, .int x3]) (rest := rest) X kc_M_207 hfr hlo (fun p h => c_M_sum (zx_v X) σ x1 x2 x3 h) rfl rfl rfl hr d hq kk
