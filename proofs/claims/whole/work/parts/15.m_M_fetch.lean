-- FrameMachineModel.fetch()I
theorem kd_M_fetch_0 : decode b_M_fetch 0 = .ok (.aload_n 0, 1) := by decide +kernel
theorem kd_M_fetch_1 : decode b_M_fetch 1 = .ok (.aload_n 0, 1) := by decide +kernel
theorem kd_M_fetch_2 : decode b_M_fetch 2 = .ok (.getfield 103, 3) := by decide +kernel
theorem kd_M_fetch_5 : decode b_M_fetch 5 = .ok (.iconst 1, 1) := by decide +kernel
theorem kd_M_fetch_6 : decode b_M_fetch 6 = .ok (.invokevirtual 106, 3) := by decide +kernel
theorem kd_M_fetch_9 : decode b_M_fetch 9 = .ok (.l2i, 1) := by decide +kernel
theorem kd_M_fetch_10 : decode b_M_fetch 10 = .ok (.istore_n 1, 1) := by decide +kernel
theorem kd_M_fetch_11 : decode b_M_fetch 11 = .ok (.aload_n 0, 1) := by decide +kernel
theorem kd_M_fetch_12 : decode b_M_fetch 12 = .ok (.dup, 1) := by decide +kernel
theorem kd_M_fetch_13 : decode b_M_fetch 13 = .ok (.getfield 103, 3) := by decide +kernel
theorem kd_M_fetch_16 : decode b_M_fetch 16 = .ok (.aload_n 0, 1) := by decide +kernel
theorem kd_M_fetch_17 : decode b_M_fetch 17 = .ok (.getfield 64, 3) := by decide +kernel
theorem kd_M_fetch_20 : decode b_M_fetch 20 = .ok (.ifCond .ne 7, 3) := by decide +kernel
theorem kd_M_fetch_23 : decode b_M_fetch 23 = .ok (.iconst 2, 1) := by decide +kernel
theorem kd_M_fetch_24 : decode b_M_fetch 24 = .ok (.goto 4, 3) := by decide +kernel
theorem kd_M_fetch_27 : decode b_M_fetch 27 = .ok (.iconst 0, 1) := by decide +kernel
theorem kd_M_fetch_28 : decode b_M_fetch 28 = .ok (.iadd, 1) := by decide +kernel
theorem kd_M_fetch_29 : decode b_M_fetch 29 = .ok (.putfield 103, 3) := by decide +kernel
theorem kd_M_fetch_32 : decode b_M_fetch 32 = .ok (.iload_n 1, 1) := by decide +kernel
theorem kd_M_fetch_33 : decode b_M_fetch 33 = .ok (.ireturn, 1) := by decide +kernel
noncomputable def f_M_fetch_28 (s0 : ZS) (l1 : Int32) (t0 : Int32) (t1 : Int32) : Option (Int32 × ZS) :=
  zs_nm (zs_up s0 0 2 (t1 + t0)) fun s3 =>
  some (l1, s3)
noncomputable def f_M_fetch (s0 : ZS)  : Option (Int32 × ZS) :=
  (f_M_read s0 (s0 0 2) 1).bind fun p1 =>
  zs_nm (p1.1.toInt32) fun v2 =>
  if (p1.2 0 15) = 0 then
    f_M_fetch_28 p1.2 v2 2 ((p1.2 0 2))
  else
    f_M_fetch_28 p1.2 v2 0 ((p1.2 0 2))
theorem j_M_fetch_28 {P : ZP} {E : ZE} {A : Nat → Prop} (X : ZX E (zmV P) A "FrameMachineModel" b_M_fetch 2 (some .int) 2 52) (s0 : ZS) (l1 : Int32) (t0 : Int32) (t1 : Int32) : ZJ E (zmV P) A 2 (zFi E (zmV P) A) 28 [(1, .int l1)] [.int t0, .int t1, .ref (P.1 0)] s0 (f_M_fetch_28 s0 l1 t0 t1) := by
  unfold f_M_fetch_28
  refine zj_iadd 29 X kd_M_fetch_28 rfl ?_
  refine pf_M_103 32 X kd_M_fetch_29 rfl ?_
  refine zj_nms (fun s3 => ?_)
  refine zj_iload_n 33 0 X kd_M_fetch_32 rfl rfl rfl ?_
  exact zj_iret X kd_M_fetch_33
theorem j_M_fetch {P : ZP} {E : ZE} {A : Nat → Prop} (X : ZX E (zmV P) A "FrameMachineModel" b_M_fetch 2 (some .int) 2 52) (s0 : ZS)  : ZJ E (zmV P) A 2 (zFi E (zmV P) A) 0 [(0, .ref (P.1 0))] [] s0 (f_M_fetch s0) := by
  unfold f_M_fetch
  refine zj_aload_n 1 0 X kd_M_fetch_0 rfl rfl rfl ?_
  refine zj_aload_n 2 0 X kd_M_fetch_1 rfl rfl rfl ?_
  refine gf_M_103 5 X kd_M_fetch_2 rfl ?_
  refine zj_iconst 6 1 X kd_M_fetch_5 ki_1 rfl ?_
  refine mc_M_106 9 X kd_M_fetch_6 (Nat.le_of_ble_eq_true rfl) (Nat.le_of_ble_eq_true rfl) (Nat.le_of_ble_eq_true rfl) rfl (fun p1 => ?_)
  refine zj_l2i 10 X kd_M_fetch_9 rfl ?_
  refine zj_nmi (fun v2 => ?_)
  refine zj_istore_n 11 [(1, .int v2), (0, .ref (P.1 0))] X kd_M_fetch_10 rfl (Nat.le_of_ble_eq_true rfl) rfl rfl ?_
  refine zj_aload_n 12 1 X kd_M_fetch_11 rfl rfl rfl ?_
  refine zj_dup 13 X kd_M_fetch_12 rfl rfl ?_
  refine gf_M_103 16 X kd_M_fetch_13 rfl ?_
  refine zj_aload_n 17 1 X kd_M_fetch_16 rfl rfl rfl ?_
  refine gf_M_64 20 X kd_M_fetch_17 rfl ?_
  refine zj_if_ne 27 23 X kd_M_fetch_20 rfl rfl (fun _ => ?_) (fun _ => ?_)
  · refine zj_iconst 24 2 X kd_M_fetch_23 ki_2 rfl ?_
    refine zj_goto 28 X kd_M_fetch_24 rfl ?_
    refine zj_loc [0] (L2 := [(1, .int v2)]) rfl ?_
    exact j_M_fetch_28 X p1.2 v2 2 ((p1.2 0 2))
  · refine zj_iconst 28 0 X kd_M_fetch_27 ki_0 rfl ?_
    refine zj_loc [0] (L2 := [(1, .int v2)]) rfl ?_
    exact j_M_fetch_28 X p1.2 v2 0 ((p1.2 0 2))
theorem c_M_fetch {l : Launch} {P : ZP} (hV : ZVok (zmV P)) (s0 : ZS)  {z : Int32 × ZS} (h : f_M_fetch s0  = some z) : zMi l y_M_fetch b_M_fetch 2 (some .int) 2 52 (zmV P) s0 [.ref (P.1 0)] z :=
  zMi_of (by decide +kernel) rfl rfl (Nat.le_of_ble_eq_true rfl) hV (fun _ X => j_M_fetch X s0 ) h
theorem kc_M_110 : zCV "FrameMachineModel" 110 y_M_fetch b_M_fetch 2 (some .int) 0 := ⟨⟨kw_950, kw_952, ksel_41, kw_11, kw_953⟩, by decide +kernel, by decide +kernel, by decide +kernel⟩
theorem mc_M_110 {ρ : Type} {E : ZE} {P : ZP} {A : Nat → Prop} {cc : ByteArray} {nL : Nat} {ret : Option FieldType} {fr lo : Nat} {F : ρ → State → Prop} {pc : Nat} {L : List (Nat × Value)} {rest : List Value} {σ : ZS}  {K : Int32 × ZS → Option ρ} (q : Nat) (X : ZX E (zmV P) A "FrameMachineModel" cc nL ret fr lo) (d : decode cc pc = .ok (.invokevirtual 110, 3)) (hfr : 2 + 1 ≤ fr) (hlo : 8 + (2 + 11) + 52 ≤ lo) (hr : (rest.map fun v => v.category).sum ≤ 8) (hq : pc + 3 = q) (kk : ∀ p : Int32 × ZS, ZJ E (zmV P) A nL F q L (.int p.1 :: rest) p.2 (K p)) : ZJ E (zmV P) A nL F pc L (.ref (P.1 0) :: rest) σ ((f_M_fetch σ ).bind K) :=
  zj_cVi q 0 0 (As := []) (rest := rest) X kc_M_110 hfr hlo (fun p h => c_M_fetch (zx_v X) σ  h) rfl rfl rfl hr d hq kk
-- FrameMachineModel.fetchLong()I
theorem kd_M_fetchLong_0 : decode b_M_fetchLong 0 = .ok (.aload_n 0, 1) := by decide +kernel
theorem kd_M_fetchLong_1 : decode b_M_fetchLong 1 = .ok (.invokevirtual 110, 3) := by decide +kernel
theorem kd_M_fetchLong_4 : decode b_M_fetchLong 4 = .ok (.istore_n 1, 1) := by decide +kernel
theorem kd_M_fetchLong_5 : decode b_M_fetchLong 5 = .ok (.aload_n 0, 1) := by decide +kernel
theorem kd_M_fetchLong_6 : decode b_M_fetchLong 6 = .ok (.invokevirtual 110, 3) := by decide +kernel
theorem kd_M_fetchLong_9 : decode b_M_fetchLong 9 = .ok (.istore_n 2, 1) := by decide +kernel
theorem kd_M_fetchLong_10 : decode b_M_fetchLong 10 = .ok (.iload_n 1, 1) := by decide +kernel
theorem kd_M_fetchLong_11 : decode b_M_fetchLong 11 = .ok (.bipush 16, 2) := by decide +kernel
theorem kd_M_fetchLong_13 : decode b_M_fetchLong 13 = .ok (.ishl, 1) := by decide +kernel
theorem kd_M_fetchLong_14 : decode b_M_fetchLong 14 = .ok (.iload_n 2, 1) := by decide +kernel
theorem kd_M_fetchLong_15 : decode b_M_fetchLong 15 = .ok (.ior, 1) := by decide +kernel
theorem kd_M_fetchLong_16 : decode b_M_fetchLong 16 = .ok (.ireturn, 1) := by decide +kernel
noncomputable def f_M_fetchLong (s0 : ZS)  : Option (Int32 × ZS) :=
  (f_M_fetch s0 ).bind fun p1 =>
  (f_M_fetch p1.2 ).bind fun p2 =>
  some ((zo_shl p1.1 16) ||| p2.1, p2.2)
theorem j_M_fetchLong {P : ZP} {E : ZE} {A : Nat → Prop} (X : ZX E (zmV P) A "FrameMachineModel" b_M_fetchLong 3 (some .int) 3 73) (s0 : ZS)  : ZJ E (zmV P) A 3 (zFi E (zmV P) A) 0 [(0, .ref (P.1 0))] [] s0 (f_M_fetchLong s0) := by
  unfold f_M_fetchLong
  refine zj_aload_n 1 0 X kd_M_fetchLong_0 rfl rfl rfl ?_
  refine mc_M_110 4 X kd_M_fetchLong_1 (Nat.le_of_ble_eq_true rfl) (Nat.le_of_ble_eq_true rfl) (Nat.le_of_ble_eq_true rfl) rfl (fun p1 => ?_)
  refine zj_istore_n 5 [(1, .int p1.1), (0, .ref (P.1 0))] X kd_M_fetchLong_4 rfl (Nat.le_of_ble_eq_true rfl) rfl rfl ?_
  refine zj_aload_n 6 1 X kd_M_fetchLong_5 rfl rfl rfl ?_
  refine mc_M_110 9 X kd_M_fetchLong_6 (Nat.le_of_ble_eq_true rfl) (Nat.le_of_ble_eq_true rfl) (Nat.le_of_ble_eq_true rfl) rfl (fun p2 => ?_)
  refine zj_istore_n 10 [(2, .int p2.1), (1, .int p1.1), (0, .ref (P.1 0))] X kd_M_fetchLong_9 rfl (Nat.le_of_ble_eq_true rfl) rfl rfl ?_
  refine zj_iload_n 11 1 X kd_M_fetchLong_10 rfl rfl rfl ?_
  refine zj_bipush 13 16 X kd_M_fetchLong_11 kb_16 rfl ?_
  refine zj_ishl 14 X kd_M_fetchLong_13 rfl ?_
  refine zj_iload_n 15 0 X kd_M_fetchLong_14 rfl rfl rfl ?_
  refine zj_ior 16 X kd_M_fetchLong_15 rfl ?_
  exact zj_iret X kd_M_fetchLong_16
theorem c_M_fetchLong {l : Launch} {P : ZP} (hV : ZVok (zmV P)) (s0 : ZS)  {z : Int32 × ZS} (h : f_M_fetchLong s0  = some z) : zMi l y_M_fetchLong b_M_fetchLong 3 (some .int) 3 73 (zmV P) s0 [.ref (P.1 0)] z :=
  zMi_of (by decide +kernel) rfl rfl (Nat.le_of_ble_eq_true rfl) hV (fun _ X => j_M_fetchLong X s0 ) h
theorem kc_M_158 : zCV "FrameMachineModel" 158 y_M_fetchLong b_M_fetchLong 3 (some .int) 0 := ⟨⟨kw_1029, kw_1031, ksel_53, kw_11, kw_1032⟩, by decide +kernel, by decide +kernel, by decide +kernel⟩
theorem mc_M_158 {ρ : Type} {E : ZE} {P : ZP} {A : Nat → Prop} {cc : ByteArray} {nL : Nat} {ret : Option FieldType} {fr lo : Nat} {F : ρ → State → Prop} {pc : Nat} {L : List (Nat × Value)} {rest : List Value} {σ : ZS}  {K : Int32 × ZS → Option ρ} (q : Nat) (X : ZX E (zmV P) A "FrameMachineModel" cc nL ret fr lo) (d : decode cc pc = .ok (.invokevirtual 158, 3)) (hfr : 3 + 1 ≤ fr) (hlo : 8 + (3 + 11) + 73 ≤ lo) (hr : (rest.map fun v => v.category).sum ≤ 8) (hq : pc + 3 = q) (kk : ∀ p : Int32 × ZS, ZJ E (zmV P) A nL F q L (.int p.1 :: rest) p.2 (K p)) : ZJ E (zmV P) A nL F pc L (.ref (P.1 0) :: rest) σ ((f_M_fetchLong σ ).bind K) :=
  zj_cVi q 0 0 (As := []) (rest := rest) X kc_M_158 hfr hlo (fun p h => c_M_fetchLong (zx_v X) σ  h) rfl rfl rfl hr d hq kk
-- FrameMachineModel.push(IJ)V
theorem kd_M_push_0 : decode b_M_push 0 = .ok (.aload_n 0, 1) := by decide +kernel
theorem kd_M_push_1 : decode b_M_push 1 = .ok (.getfield 16, 3) := by decide +kernel
theorem kd_M_push_4 : decode b_M_push 4 = .ok (.bipush 7, 2) := by decide +kernel
theorem kd_M_push_6 : decode b_M_push 6 = .ok (.dup2, 1) := by decide +kernel
theorem kd_M_push_7 : decode b_M_push 7 = .ok (.iaload, 1) := by decide +kernel
theorem kd_M_push_8 : decode b_M_push 8 = .ok (.iload_n 1, 1) := by decide +kernel
theorem kd_M_push_9 : decode b_M_push 9 = .ok (.invokestatic 83, 3) := by decide +kernel
theorem kd_M_push_12 : decode b_M_push 12 = .ok (.isub, 1) := by decide +kernel
theorem kd_M_push_13 : decode b_M_push 13 = .ok (.iastore, 1) := by decide +kernel
theorem kd_M_push_14 : decode b_M_push 14 = .ok (.aload_n 0, 1) := by decide +kernel
theorem kd_M_push_15 : decode b_M_push 15 = .ok (.aload_n 0, 1) := by decide +kernel
theorem kd_M_push_16 : decode b_M_push 16 = .ok (.getfield 16, 3) := by decide +kernel
theorem kd_M_push_19 : decode b_M_push 19 = .ok (.bipush 7, 2) := by decide +kernel
theorem kd_M_push_21 : decode b_M_push 21 = .ok (.iaload, 1) := by decide +kernel
theorem kd_M_push_22 : decode b_M_push 22 = .ok (.iload_n 1, 1) := by decide +kernel
theorem kd_M_push_23 : decode b_M_push 23 = .ok (.lload_n 2, 1) := by decide +kernel
theorem kd_M_push_24 : decode b_M_push 24 = .ok (.invokevirtual 114, 3) := by decide +kernel
theorem kd_M_push_27 : decode b_M_push 27 = .ok (.return_, 1) := by decide +kernel
noncomputable def f_M_push (s0 : ZS) (x1 : Int32) (x2 : Int64) : Option (ZS) :=
  if (7 : Int32) < 0 ∨ 8 ≤ (7 : Int32).toNatClampNeg then none else
  (f_M_bytes s0 x1).bind fun p1 =>
  if (7 : Int32) < 0 ∨ 8 ≤ (7 : Int32).toNatClampNeg then none else
  zs_nm (zs_up p1.2 3 (7 : Int32).toNatClampNeg ((s0 3 (7 : Int32).toNatClampNeg) - p1.1)) fun s2 =>
  if (7 : Int32) < 0 ∨ 8 ≤ (7 : Int32).toNatClampNeg then none else
  (f_M_write s2 (s2 3 (7 : Int32).toNatClampNeg) x1 x2).bind fun s3 =>
  some s3
theorem j_M_push {P : ZP} {E : ZE} {A : Nat → Prop} (X : ZX E (zmV P) A "FrameMachineModel" b_M_push 4 none 2 52) (s0 : ZS) (x1 : Int32) (x2 : Int64) : ZJ E (zmV P) A 4 (zFv E (zmV P) A) 0 [(0, .ref (P.1 0)), (1, .int x1), (2, .long x2)] [] s0 (f_M_push s0 x1 x2) := by
  unfold f_M_push
  refine zj_aload_n 1 0 X kd_M_push_0 rfl rfl rfl ?_
  refine gf_M_16 4 X kd_M_push_1 rfl ?_
  refine zj_bipush 6 7 X kd_M_push_4 kb_7 rfl ?_
  refine zj_dup2 7 X kd_M_push_6 rfl rfl rfl ?_
  refine zj_ng (fun hg => ?_)
  refine al_M_3 8 X kd_M_push_7 hg rfl ?_
  refine zj_iload_n 9 1 X kd_M_push_8 rfl rfl rfl ?_
  refine mc_M_83 12 X kd_M_push_9 (Nat.le_of_ble_eq_true rfl) (Nat.le_of_ble_eq_true rfl) (Nat.le_of_ble_eq_true rfl) rfl (fun p1 => ?_)
  refine zj_isub 13 X kd_M_push_12 rfl ?_
  refine zj_ng (fun hg => ?_)
  refine as_M_3 14 X kd_M_push_13 hg rfl ?_
  refine zj_nms (fun s2 => ?_)
  refine zj_aload_n 15 0 X kd_M_push_14 rfl rfl rfl ?_
  refine zj_aload_n 16 0 X kd_M_push_15 rfl rfl rfl ?_
  refine gf_M_16 19 X kd_M_push_16 rfl ?_
  refine zj_bipush 21 7 X kd_M_push_19 kb_7 rfl ?_
  refine zj_ng (fun hg => ?_)
  refine al_M_3 22 X kd_M_push_21 hg rfl ?_
  refine zj_iload_n 23 1 X kd_M_push_22 rfl rfl rfl ?_
  refine zj_lload_n 24 2 X kd_M_push_23 rfl rfl rfl ?_
  refine mc_M_114 27 X kd_M_push_24 (Nat.le_of_ble_eq_true rfl) (Nat.le_of_ble_eq_true rfl) (Nat.le_of_ble_eq_true rfl) rfl (fun s3 => ?_)
  exact zj_vret X kd_M_push_27
theorem c_M_push {l : Launch} {P : ZP} (hV : ZVok (zmV P)) (s0 : ZS) (x1 : Int32) (x2 : Int64) {z : ZS} (h : f_M_push s0 x1 x2 = some z) : zMv l y_M_push b_M_push 4 none 2 52 (zmV P) s0 [.ref (P.1 0), .int x1, .long x2] z :=
  zMv_of (by decide +kernel) rfl rfl (Nat.le_of_ble_eq_true rfl) hV (fun _ X => j_M_push X s0 x1 x2) h
theorem kc_M_218 : zCV "FrameMachineModel" 218 y_M_push b_M_push 4 none 2 := ⟨⟨kw_912, kw_914, ksel_34, kw_11, kw_915⟩, by decide +kernel, by decide +kernel, by decide +kernel⟩
theorem mc_M_218 {ρ : Type} {E : ZE} {P : ZP} {A : Nat → Prop} {cc : ByteArray} {nL : Nat} {ret : Option FieldType} {fr lo : Nat} {F : ρ → State → Prop} {pc : Nat} {L : List (Nat × Value)} {rest : List Value} {σ : ZS} {x1 : Int32} {x2 : Int64} {K : ZS → Option ρ} (q : Nat) (X : ZX E (zmV P) A "FrameMachineModel" cc nL ret fr lo) (d : decode cc pc = .ok (.invokevirtual 218, 3)) (hfr : 2 + 1 ≤ fr) (hlo : 8 + (4 + 11) + 52 ≤ lo) (hr : (rest.map fun v => v.category).sum ≤ 8) (hq : pc + 3 = q) (kk : ∀ p : ZS, ZJ E (zmV P) A nL F q L (rest) p (K p)) : ZJ E (zmV P) A nL F pc L (.long x2 :: .int x1 :: .ref (P.1 0) :: rest) σ ((f_M_push σ x1 x2).bind K) :=
  zj_cVv q 0 0 (As := [.int x1, .long x2]) (rest := rest) X kc_M_218 hfr hlo (fun p h => c_M_push (zx_v X) σ x1 x2 h) rfl rfl rfl hr d hq kk
-- FrameMachineModel.pop(I)I
theorem kd_M_pop_0 : decode b_M_pop 0 = .ok (.aload_n 0, 1) := by decide +kernel
theorem kd_M_pop_1 : decode b_M_pop 1 = .ok (.aload_n 0, 1) := by decide +kernel
theorem kd_M_pop_2 : decode b_M_pop 2 = .ok (.getfield 16, 3) := by decide +kernel
theorem kd_M_pop_5 : decode b_M_pop 5 = .ok (.bipush 7, 2) := by decide +kernel
theorem kd_M_pop_7 : decode b_M_pop 7 = .ok (.iaload, 1) := by decide +kernel
theorem kd_M_pop_8 : decode b_M_pop 8 = .ok (.iload_n 1, 1) := by decide +kernel
theorem kd_M_pop_9 : decode b_M_pop 9 = .ok (.invokevirtual 106, 3) := by decide +kernel
theorem kd_M_pop_12 : decode b_M_pop 12 = .ok (.l2i, 1) := by decide +kernel
theorem kd_M_pop_13 : decode b_M_pop 13 = .ok (.istore_n 2, 1) := by decide +kernel
theorem kd_M_pop_14 : decode b_M_pop 14 = .ok (.aload_n 0, 1) := by decide +kernel
theorem kd_M_pop_15 : decode b_M_pop 15 = .ok (.getfield 16, 3) := by decide +kernel
theorem kd_M_pop_18 : decode b_M_pop 18 = .ok (.bipush 7, 2) := by decide +kernel
theorem kd_M_pop_20 : decode b_M_pop 20 = .ok (.dup2, 1) := by decide +kernel
theorem kd_M_pop_21 : decode b_M_pop 21 = .ok (.iaload, 1) := by decide +kernel
theorem kd_M_pop_22 : decode b_M_pop 22 = .ok (.aload_n 0, 1) := by decide +kernel
theorem kd_M_pop_23 : decode b_M_pop 23 = .ok (.getfield 64, 3) := by decide +kernel
theorem kd_M_pop_26 : decode b_M_pop 26 = .ok (.ifCond .ne 10, 3) := by decide +kernel
theorem kd_M_pop_29 : decode b_M_pop 29 = .ok (.iload_n 1, 1) := by decide +kernel
theorem kd_M_pop_30 : decode b_M_pop 30 = .ok (.invokestatic 83, 3) := by decide +kernel
theorem kd_M_pop_33 : decode b_M_pop 33 = .ok (.goto 4, 3) := by decide +kernel
theorem kd_M_pop_36 : decode b_M_pop 36 = .ok (.iconst 0, 1) := by decide +kernel
theorem kd_M_pop_37 : decode b_M_pop 37 = .ok (.iadd, 1) := by decide +kernel
theorem kd_M_pop_38 : decode b_M_pop 38 = .ok (.iastore, 1) := by decide +kernel
theorem kd_M_pop_39 : decode b_M_pop 39 = .ok (.iload_n 2, 1) := by decide +kernel
theorem kd_M_pop_40 : decode b_M_pop 40 = .ok (.ireturn, 1) := by decide +kernel
noncomputable def f_M_pop_37 (s0 : ZS) (l2 : Int32) (t0 : Int32) (t1 : Int32) (t2 : Int32) : Option (Int32 × ZS) :=
  if t2 < 0 ∨ 8 ≤ t2.toNatClampNeg then none else
  zs_nm (zs_up s0 3 t2.toNatClampNeg (t1 + t0)) fun s3 =>
  some (l2, s3)
noncomputable def f_M_pop (s0 : ZS) (x1 : Int32) : Option (Int32 × ZS) :=
  if (7 : Int32) < 0 ∨ 8 ≤ (7 : Int32).toNatClampNeg then none else
  (f_M_read s0 (s0 3 (7 : Int32).toNatClampNeg) x1).bind fun p1 =>
  zs_nm (p1.1.toInt32) fun v2 =>
  if (7 : Int32) < 0 ∨ 8 ≤ (7 : Int32).toNatClampNeg then none else
  if (p1.2 0 15) = 0 then
    (f_M_bytes p1.2 x1).bind fun p4 =>
    f_M_pop_37 p4.2 v2 p4.1 ((p1.2 3 (7 : Int32).toNatClampNeg)) 7
  else
    f_M_pop_37 p1.2 v2 0 ((p1.2 3 (7 : Int32).toNatClampNeg)) 7
theorem j_M_pop_37 {P : ZP} {E : ZE} {A : Nat → Prop} (X : ZX E (zmV P) A "FrameMachineModel" b_M_pop 3 (some .int) 2 52) (s0 : ZS) (l2 : Int32) (t0 : Int32) (t1 : Int32) (t2 : Int32) : ZJ E (zmV P) A 3 (zFi E (zmV P) A) 37 [(2, .int l2)] [.int t0, .int t1, .int t2, .ref (P.1 3)] s0 (f_M_pop_37 s0 l2 t0 t1 t2) := by
  unfold f_M_pop_37
  refine zj_iadd 38 X kd_M_pop_37 rfl ?_
  refine zj_ng (fun hg => ?_)
  refine as_M_3 39 X kd_M_pop_38 hg rfl ?_
  refine zj_nms (fun s3 => ?_)
  refine zj_iload_n 40 0 X kd_M_pop_39 rfl rfl rfl ?_
  exact zj_iret X kd_M_pop_40
theorem j_M_pop {P : ZP} {E : ZE} {A : Nat → Prop} (X : ZX E (zmV P) A "FrameMachineModel" b_M_pop 3 (some .int) 2 52) (s0 : ZS) (x1 : Int32) : ZJ E (zmV P) A 3 (zFi E (zmV P) A) 0 [(0, .ref (P.1 0)), (1, .int x1)] [] s0 (f_M_pop s0 x1) := by
  unfold f_M_pop
  refine zj_aload_n 1 0 X kd_M_pop_0 rfl rfl rfl ?_
  refine zj_aload_n 2 0 X kd_M_pop_1 rfl rfl rfl ?_
  refine gf_M_16 5 X kd_M_pop_2 rfl ?_
  refine zj_bipush 7 7 X kd_M_pop_5 kb_7 rfl ?_
  refine zj_ng (fun hg => ?_)
  refine al_M_3 8 X kd_M_pop_7 hg rfl ?_
  refine zj_iload_n 9 1 X kd_M_pop_8 rfl rfl rfl ?_
  refine mc_M_106 12 X kd_M_pop_9 (Nat.le_of_ble_eq_true rfl) (Nat.le_of_ble_eq_true rfl) (Nat.le_of_ble_eq_true rfl) rfl (fun p1 => ?_)
  refine zj_l2i 13 X kd_M_pop_12 rfl ?_
  refine zj_nmi (fun v2 => ?_)
  refine zj_istore_n 14 [(2, .int v2), (0, .ref (P.1 0)), (1, .int x1)] X kd_M_pop_13 rfl (Nat.le_of_ble_eq_true rfl) rfl rfl ?_
  refine zj_aload_n 15 1 X kd_M_pop_14 rfl rfl rfl ?_
  refine gf_M_16 18 X kd_M_pop_15 rfl ?_
  refine zj_bipush 20 7 X kd_M_pop_18 kb_7 rfl ?_
  refine zj_dup2 21 X kd_M_pop_20 rfl rfl rfl ?_
  refine zj_ng (fun hg => ?_)
  refine al_M_3 22 X kd_M_pop_21 hg rfl ?_
  refine zj_aload_n 23 1 X kd_M_pop_22 rfl rfl rfl ?_
  refine gf_M_64 26 X kd_M_pop_23 rfl ?_
  refine zj_if_ne 36 29 X kd_M_pop_26 rfl rfl (fun _ => ?_) (fun _ => ?_)
  · refine zj_iload_n 30 2 X kd_M_pop_29 rfl rfl rfl ?_
    refine mc_M_83 33 X kd_M_pop_30 (Nat.le_of_ble_eq_true rfl) (Nat.le_of_ble_eq_true rfl) (Nat.le_of_ble_eq_true rfl) rfl (fun p4 => ?_)
    refine zj_goto 37 X kd_M_pop_33 rfl ?_
    refine zj_loc [0] (L2 := [(2, .int v2)]) rfl ?_
    exact j_M_pop_37 X p4.2 v2 p4.1 ((p1.2 3 (7 : Int32).toNatClampNeg)) 7
  · refine zj_iconst 37 0 X kd_M_pop_36 ki_0 rfl ?_
    refine zj_loc [0] (L2 := [(2, .int v2)]) rfl ?_
    exact j_M_pop_37 X p1.2 v2 0 ((p1.2 3 (7 : Int32).toNatClampNeg)) 7
theorem c_M_pop {l : Launch} {P : ZP} (hV : ZVok (zmV P)) (s0 : ZS) (x1 : Int32) {z : Int32 × ZS} (h : f_M_pop s0 x1 = some z) : zMi l y_M_pop b_M_pop 3 (some .int) 2 52 (zmV P) s0 [.ref (P.1 0), .int x1] z :=
  zMi_of (by decide +kernel) rfl rfl (Nat.le_of_ble_eq_true rfl) hV (fun _ X => j_M_pop X s0 x1) h
theorem kc_M_226 : zCV "FrameMachineModel" 226 y_M_pop b_M_pop 3 (some .int) 1 := ⟨⟨kw_1013, kw_1015, ksel_49, kw_11, kw_1016⟩, by decide +kernel, by decide +kernel, by decide +kernel⟩
theorem mc_M_226 {ρ : Type} {E : ZE} {P : ZP} {A : Nat → Prop} {cc : ByteArray} {nL : Nat} {ret : Option FieldType} {fr lo : Nat} {F : ρ → State → Prop} {pc : Nat} {L : List (Nat × Value)} {rest : List Value} {σ : ZS} {x1 : Int32} {K : Int32 × ZS → Option ρ} (q : Nat) (X : ZX E (zmV P) A "FrameMachineModel" cc nL ret fr lo) (d : decode cc pc = .ok (.invokevirtual 226, 3)) (hfr : 2 + 1 ≤ fr) (hlo : 8 + (3 + 11) + 52 ≤ lo) (hr : (rest.map fun v => v.category).sum ≤ 8) (hq : pc + 3 = q) (kk : ∀ p : Int32 × ZS, ZJ E (zmV P) A nL F q L (.int p.1 :: rest) p.2 (K p)) : ZJ E (zmV P) A nL F pc L (.int x1 :: .ref (P.1 0) :: rest) σ ((f_M_pop σ x1).bind K) :=
  zj_cVi q 0 0 (As := [.int x1]) (rest := rest) X kc_M_226 hfr hlo (fun p h => c_M_pop (zx_v X) σ x1 h) rfl rfl rfl hr d hq kk
-- FrameMachineModel.packed()I
theorem kd_M_packed_0 : decode b_M_packed 0 = .ok (.ldc 118, 2) := by decide +kernel
theorem kd_M_packed_2 : decode b_M_packed 2 = .ok (.aload_n 0, 1) := by decide +kernel
theorem kd_M_packed_3 : decode b_M_packed 3 = .ok (.getfield 119, 3) := by decide +kernel
theorem kd_M_packed_6 : decode b_M_packed 6 = .ok (.imul, 1) := by decide +kernel
theorem kd_M_packed_7 : decode b_M_packed 7 = .ok (.sipush 8192, 3) := by decide +kernel
theorem kd_M_packed_10 : decode b_M_packed 10 = .ok (.aload_n 0, 1) := by decide +kernel
theorem kd_M_packed_11 : decode b_M_packed 11 = .ok (.getfield 19, 3) := by decide +kernel
theorem kd_M_packed_14 : decode b_M_packed 14 = .ok (.imul, 1) := by decide +kernel
theorem kd_M_packed_15 : decode b_M_packed 15 = .ok (.iadd, 1) := by decide +kernel
theorem kd_M_packed_16 : decode b_M_packed 16 = .ok (.sipush 256, 3) := by decide +kernel
theorem kd_M_packed_19 : decode b_M_packed 19 = .ok (.aload_n 0, 1) := by decide +kernel
theorem kd_M_packed_20 : decode b_M_packed 20 = .ok (.getfield 23, 3) := by decide +kernel
theorem kd_M_packed_23 : decode b_M_packed 23 = .ok (.imul, 1) := by decide +kernel
theorem kd_M_packed_24 : decode b_M_packed 24 = .ok (.iadd, 1) := by decide +kernel
theorem kd_M_packed_25 : decode b_M_packed 25 = .ok (.bipush 16, 2) := by decide +kernel
theorem kd_M_packed_27 : decode b_M_packed 27 = .ok (.aload_n 0, 1) := by decide +kernel
theorem kd_M_packed_28 : decode b_M_packed 28 = .ok (.getfield 122, 3) := by decide +kernel
theorem kd_M_packed_31 : decode b_M_packed 31 = .ok (.imul, 1) := by decide +kernel
theorem kd_M_packed_32 : decode b_M_packed 32 = .ok (.iadd, 1) := by decide +kernel
theorem kd_M_packed_33 : decode b_M_packed 33 = .ok (.bipush 8, 2) := by decide +kernel
theorem kd_M_packed_35 : decode b_M_packed 35 = .ok (.aload_n 0, 1) := by decide +kernel
theorem kd_M_packed_36 : decode b_M_packed 36 = .ok (.getfield 125, 3) := by decide +kernel
theorem kd_M_packed_39 : decode b_M_packed 39 = .ok (.imul, 1) := by decide +kernel
theorem kd_M_packed_40 : decode b_M_packed 40 = .ok (.iadd, 1) := by decide +kernel
theorem kd_M_packed_41 : decode b_M_packed 41 = .ok (.iconst 4, 1) := by decide +kernel
theorem kd_M_packed_42 : decode b_M_packed 42 = .ok (.aload_n 0, 1) := by decide +kernel
theorem kd_M_packed_43 : decode b_M_packed 43 = .ok (.getfield 128, 3) := by decide +kernel
theorem kd_M_packed_46 : decode b_M_packed 46 = .ok (.imul, 1) := by decide +kernel
theorem kd_M_packed_47 : decode b_M_packed 47 = .ok (.iadd, 1) := by decide +kernel
theorem kd_M_packed_48 : decode b_M_packed 48 = .ok (.iconst 2, 1) := by decide +kernel
theorem kd_M_packed_49 : decode b_M_packed 49 = .ok (.aload_n 0, 1) := by decide +kernel
theorem kd_M_packed_50 : decode b_M_packed 50 = .ok (.getfield 131, 3) := by decide +kernel
theorem kd_M_packed_53 : decode b_M_packed 53 = .ok (.imul, 1) := by decide +kernel
theorem kd_M_packed_54 : decode b_M_packed 54 = .ok (.iadd, 1) := by decide +kernel
theorem kd_M_packed_55 : decode b_M_packed 55 = .ok (.aload_n 0, 1) := by decide +kernel
theorem kd_M_packed_56 : decode b_M_packed 56 = .ok (.getfield 134, 3) := by decide +kernel
theorem kd_M_packed_59 : decode b_M_packed 59 = .ok (.iadd, 1) := by decide +kernel
theorem kd_M_packed_60 : decode b_M_packed 60 = .ok (.ireturn, 1) := by decide +kernel
noncomputable def f_M_packed (s0 : ZS)  : Option (Int32 × ZS) :=
  some ((((((((32768 * (s0 0 3)) + (8192 * (s0 0 4))) + (256 * (s0 0 5))) + (16 * (s0 0 6))) + (8 * (s0 0 7))) + (4 * (s0 0 8))) + (2 * (s0 0 9))) + (s0 0 10), s0)
theorem j_M_packed {P : ZP} {E : ZE} {A : Nat → Prop} (X : ZX E (zmV P) A "FrameMachineModel" b_M_packed 1 (some .int) 0 0) (s0 : ZS)  : ZJ E (zmV P) A 1 (zFi E (zmV P) A) 0 [(0, .ref (P.1 0))] [] s0 (f_M_packed s0) := by
  unfold f_M_packed
  refine zj_ldc 2 32768 X kd_M_packed_0 kw_906 rfl ?_
  refine zj_aload_n 3 0 X kd_M_packed_2 rfl rfl rfl ?_
  refine gf_M_119 6 X kd_M_packed_3 rfl ?_
  refine zj_imul 7 X kd_M_packed_6 rfl ?_
  refine zj_sipush 10 8192 X kd_M_packed_7 ks_8192 rfl ?_
  refine zj_aload_n 11 0 X kd_M_packed_10 rfl rfl rfl ?_
  refine gf_M_19 14 X kd_M_packed_11 rfl ?_
  refine zj_imul 15 X kd_M_packed_14 rfl ?_
  refine zj_iadd 16 X kd_M_packed_15 rfl ?_
  refine zj_sipush 19 256 X kd_M_packed_16 ks_256 rfl ?_
  refine zj_aload_n 20 0 X kd_M_packed_19 rfl rfl rfl ?_
  refine gf_M_23 23 X kd_M_packed_20 rfl ?_
  refine zj_imul 24 X kd_M_packed_23 rfl ?_
  refine zj_iadd 25 X kd_M_packed_24 rfl ?_
  refine zj_bipush 27 16 X kd_M_packed_25 kb_16 rfl ?_
  refine zj_aload_n 28 0 X kd_M_packed_27 rfl rfl rfl ?_
  refine gf_M_122 31 X kd_M_packed_28 rfl ?_
  refine zj_imul 32 X kd_M_packed_31 rfl ?_
  refine zj_iadd 33 X kd_M_packed_32 rfl ?_
  refine zj_bipush 35 8 X kd_M_packed_33 kb_8 rfl ?_
  refine zj_aload_n 36 0 X kd_M_packed_35 rfl rfl rfl ?_
  refine gf_M_125 39 X kd_M_packed_36 rfl ?_
  refine zj_imul 40 X kd_M_packed_39 rfl ?_
  refine zj_iadd 41 X kd_M_packed_40 rfl ?_
  refine zj_iconst 42 4 X kd_M_packed_41 ki_4 rfl ?_
  refine zj_aload_n 43 0 X kd_M_packed_42 rfl rfl rfl ?_
  refine gf_M_128 46 X kd_M_packed_43 rfl ?_
  refine zj_imul 47 X kd_M_packed_46 rfl ?_
  refine zj_iadd 48 X kd_M_packed_47 rfl ?_
  refine zj_iconst 49 2 X kd_M_packed_48 ki_2 rfl ?_
  refine zj_aload_n 50 0 X kd_M_packed_49 rfl rfl rfl ?_
  refine gf_M_131 53 X kd_M_packed_50 rfl ?_
  refine zj_imul 54 X kd_M_packed_53 rfl ?_
  refine zj_iadd 55 X kd_M_packed_54 rfl ?_
  refine zj_aload_n 56 0 X kd_M_packed_55 rfl rfl rfl ?_
  refine gf_M_134 59 X kd_M_packed_56 rfl ?_
  refine zj_iadd 60 X kd_M_packed_59 rfl ?_
  exact zj_iret X kd_M_packed_60
theorem c_M_packed {l : Launch} {P : ZP} (hV : ZVok (zmV P)) (s0 : ZS)  {z : Int32 × ZS} (h : f_M_packed s0  = some z) : zMi l y_M_packed b_M_packed 1 (some .int) 0 0 (zmV P) s0 [.ref (P.1 0)] z :=
  zMi_of (by decide +kernel) rfl rfl (Nat.le_of_ble_eq_true rfl) hV (fun _ X => j_M_packed X s0 ) h
theorem kc_M_204 : zCV "FrameMachineModel" 204 y_M_packed b_M_packed 1 (some .int) 0 := ⟨⟨kw_902, kw_904, ksel_32, kw_11, kw_905⟩, by decide +kernel, by decide +kernel, by decide +kernel⟩
theorem mc_M_204 {ρ : Type} {E : ZE} {P : ZP} {A : Nat → Prop} {cc : ByteArray} {nL : Nat} {ret : Option FieldType} {fr lo : Nat} {F : ρ → State → Prop} {pc : Nat} {L : List (Nat × Value)} {rest : List Value} {σ : ZS}  {K : Int32 × ZS → Option ρ} (q : Nat) (X : ZX E (zmV P) A "FrameMachineModel" cc nL ret fr lo) (d : decode cc pc = .ok (.invokevirtual 204, 3)) (hfr : 0 + 1 ≤ fr) (hlo : 8 + (1 + 11) + 0 ≤ lo) (hr : (rest.map fun v => v.category).sum ≤ 8) (hq : pc + 3 = q) (kk : ∀ p : Int32 × ZS, ZJ E (zmV P) A nL F q L (.int p.1 :: rest) p.2 (K p)) : ZJ E (zmV P) A nL F pc L (.ref (P.1 0) :: rest) σ ((f_M_packed σ ).bind K) :=
  zj_cVi q 0 0 (As := []) (rest := rest) X kc_M_204 hfr hlo (fun p h => c_M_packed (zx_v X) σ  h) rfl rfl rfl hr d hq kk
-- FrameMachineModel.setAbove(I)V
theorem kd_M_setAbove_0 : decode b_M_setAbove 0 = .ok (.iload_n 1, 1) := by decide +kernel
theorem kd_M_setAbove_1 : decode b_M_setAbove 1 = .ok (.aload_n 0, 1) := by decide +kernel
theorem kd_M_setAbove_2 : decode b_M_setAbove 2 = .ok (.getfield 19, 3) := by decide +kernel
theorem kd_M_setAbove_5 : decode b_M_setAbove 5 = .ok (.if_icmp .eq 27, 3) := by decide +kernel
theorem kd_M_setAbove_8 : decode b_M_setAbove 8 = .ok (.aload_n 0, 1) := by decide +kernel
theorem kd_M_setAbove_9 : decode b_M_setAbove 9 = .ok (.getfield 16, 3) := by decide +kernel
theorem kd_M_setAbove_12 : decode b_M_setAbove 12 = .ok (.bipush 7, 2) := by decide +kernel
theorem kd_M_setAbove_14 : decode b_M_setAbove 14 = .ok (.iaload, 1) := by decide +kernel
theorem kd_M_setAbove_15 : decode b_M_setAbove 15 = .ok (.istore_n 2, 1) := by decide +kernel
theorem kd_M_setAbove_16 : decode b_M_setAbove 16 = .ok (.aload_n 0, 1) := by decide +kernel
theorem kd_M_setAbove_17 : decode b_M_setAbove 17 = .ok (.getfield 16, 3) := by decide +kernel
theorem kd_M_setAbove_20 : decode b_M_setAbove 20 = .ok (.bipush 7, 2) := by decide +kernel
theorem kd_M_setAbove_22 : decode b_M_setAbove 22 = .ok (.aload_n 0, 1) := by decide +kernel
theorem kd_M_setAbove_23 : decode b_M_setAbove 23 = .ok (.getfield 137, 3) := by decide +kernel
theorem kd_M_setAbove_26 : decode b_M_setAbove 26 = .ok (.iastore, 1) := by decide +kernel
theorem kd_M_setAbove_27 : decode b_M_setAbove 27 = .ok (.aload_n 0, 1) := by decide +kernel
theorem kd_M_setAbove_28 : decode b_M_setAbove 28 = .ok (.iload_n 2, 1) := by decide +kernel
theorem kd_M_setAbove_29 : decode b_M_setAbove 29 = .ok (.putfield 137, 3) := by decide +kernel
theorem kd_M_setAbove_32 : decode b_M_setAbove 32 = .ok (.aload_n 0, 1) := by decide +kernel
theorem kd_M_setAbove_33 : decode b_M_setAbove 33 = .ok (.iload_n 1, 1) := by decide +kernel
theorem kd_M_setAbove_34 : decode b_M_setAbove 34 = .ok (.putfield 19, 3) := by decide +kernel
theorem kd_M_setAbove_37 : decode b_M_setAbove 37 = .ok (.return_, 1) := by decide +kernel
noncomputable def f_M_setAbove_32 (s0 : ZS) (l1 : Int32) : Option (ZS) :=
  zs_nm (zs_up s0 0 4 l1) fun s1 =>
  some s1
noncomputable def f_M_setAbove (s0 : ZS) (x1 : Int32) : Option (ZS) :=
  if x1 = (s0 0 4) then
    f_M_setAbove_32 s0 x1
  else
    if (7 : Int32) < 0 ∨ 8 ≤ (7 : Int32).toNatClampNeg then none else
    zs_nm (s0 3 (7 : Int32).toNatClampNeg) fun v2 =>
    if (7 : Int32) < 0 ∨ 8 ≤ (7 : Int32).toNatClampNeg then none else
    zs_nm (zs_up s0 3 (7 : Int32).toNatClampNeg (s0 0 1)) fun s3 =>
    zs_nm (zs_up s3 0 1 v2) fun s4 =>
    f_M_setAbove_32 s4 x1
theorem j_M_setAbove_32 {P : ZP} {E : ZE} {A : Nat → Prop} (X : ZX E (zmV P) A "FrameMachineModel" b_M_setAbove 3 none 0 0) (s0 : ZS) (l1 : Int32) : ZJ E (zmV P) A 3 (zFv E (zmV P) A) 32 [(0, .ref (P.1 0)), (1, .int l1)] [] s0 (f_M_setAbove_32 s0 l1) := by
  unfold f_M_setAbove_32
  refine zj_aload_n 33 0 X kd_M_setAbove_32 rfl rfl rfl ?_
  refine zj_iload_n 34 1 X kd_M_setAbove_33 rfl rfl rfl ?_
  refine pf_M_19 37 X kd_M_setAbove_34 rfl ?_
  refine zj_nms (fun s1 => ?_)
  exact zj_vret X kd_M_setAbove_37
theorem j_M_setAbove {P : ZP} {E : ZE} {A : Nat → Prop} (X : ZX E (zmV P) A "FrameMachineModel" b_M_setAbove 3 none 0 0) (s0 : ZS) (x1 : Int32) : ZJ E (zmV P) A 3 (zFv E (zmV P) A) 0 [(0, .ref (P.1 0)), (1, .int x1)] [] s0 (f_M_setAbove s0 x1) := by
  unfold f_M_setAbove
  refine zj_iload_n 1 1 X kd_M_setAbove_0 rfl rfl rfl ?_
  refine zj_aload_n 2 0 X kd_M_setAbove_1 rfl rfl rfl ?_
  refine gf_M_19 5 X kd_M_setAbove_2 rfl ?_
  refine zj_icmp_eq 32 8 X kd_M_setAbove_5 rfl rfl (fun _ => ?_) (fun _ => ?_)
  · exact j_M_setAbove_32 X s0 x1
  · refine zj_aload_n 9 0 X kd_M_setAbove_8 rfl rfl rfl ?_
    refine gf_M_16 12 X kd_M_setAbove_9 rfl ?_
    refine zj_bipush 14 7 X kd_M_setAbove_12 kb_7 rfl ?_
    refine zj_ng (fun hg => ?_)
    refine al_M_3 15 X kd_M_setAbove_14 hg rfl ?_
    refine zj_nmi (fun v2 => ?_)
    refine zj_istore_n 16 [(2, .int v2), (0, .ref (P.1 0)), (1, .int x1)] X kd_M_setAbove_15 rfl (Nat.le_of_ble_eq_true rfl) rfl rfl ?_
    refine zj_aload_n 17 1 X kd_M_setAbove_16 rfl rfl rfl ?_
    refine gf_M_16 20 X kd_M_setAbove_17 rfl ?_
    refine zj_bipush 22 7 X kd_M_setAbove_20 kb_7 rfl ?_
    refine zj_aload_n 23 1 X kd_M_setAbove_22 rfl rfl rfl ?_
    refine gf_M_137 26 X kd_M_setAbove_23 rfl ?_
    refine zj_ng (fun hg => ?_)
    refine as_M_3 27 X kd_M_setAbove_26 hg rfl ?_
    refine zj_nms (fun s3 => ?_)
    refine zj_aload_n 28 1 X kd_M_setAbove_27 rfl rfl rfl ?_
    refine zj_iload_n 29 0 X kd_M_setAbove_28 rfl rfl rfl ?_
    refine pf_M_137 32 X kd_M_setAbove_29 rfl ?_
    refine zj_nms (fun s4 => ?_)
    refine zj_loc [1, 2] (L2 := [(0, .ref (P.1 0)), (1, .int x1)]) rfl ?_
    exact j_M_setAbove_32 X s4 x1
theorem c_M_setAbove {l : Launch} {P : ZP} (hV : ZVok (zmV P)) (s0 : ZS) (x1 : Int32) {z : ZS} (h : f_M_setAbove s0 x1 = some z) : zMv l y_M_setAbove b_M_setAbove 3 none 0 0 (zmV P) s0 [.ref (P.1 0), .int x1] z :=
  zMv_of (by decide +kernel) rfl rfl (Nat.le_of_ble_eq_true rfl) hV (fun _ X => j_M_setAbove X s0 x1) h
theorem kc_M_140 : zCV "FrameMachineModel" 140 y_M_setAbove b_M_setAbove 3 none 1 := ⟨⟨kw_907, kw_909, ksel_33, kw_11, kw_910⟩, by decide +kernel, by decide +kernel, by decide +kernel⟩
theorem mc_M_140 {ρ : Type} {E : ZE} {P : ZP} {A : Nat → Prop} {cc : ByteArray} {nL : Nat} {ret : Option FieldType} {fr lo : Nat} {F : ρ → State → Prop} {pc : Nat} {L : List (Nat × Value)} {rest : List Value} {σ : ZS} {x1 : Int32} {K : ZS → Option ρ} (q : Nat) (X : ZX E (zmV P) A "FrameMachineModel" cc nL ret fr lo) (d : decode cc pc = .ok (.invokevirtual 140, 3)) (hfr : 0 + 1 ≤ fr) (hlo : 8 + (3 + 11) + 0 ≤ lo) (hr : (rest.map fun v => v.category).sum ≤ 8) (hq : pc + 3 = q) (kk : ∀ p : ZS, ZJ E (zmV P) A nL F q L (rest) p (K p)) : ZJ E (zmV P) A nL F pc L (.int x1 :: .ref (P.1 0) :: rest) σ ((f_M_setAbove σ x1).bind K) :=
  zj_cVv q 0 0 (As := [.int x1]) (rest := rest) X kc_M_140 hfr hlo (fun p h => c_M_setAbove (zx_v X) σ x1 h) rfl rfl rfl hr d hq kk
-- FrameMachineModel.setStatus(I)V
theorem kd_M_setStatus_0 : decode b_M_setStatus 0 = .ok (.aload_n 0, 1) := by decide +kernel
theorem kd_M_setStatus_1 : decode b_M_setStatus 1 = .ok (.iload_n 1, 1) := by decide +kernel
theorem kd_M_setStatus_2 : decode b_M_setStatus 2 = .ok (.bipush 15, 2) := by decide +kernel
theorem kd_M_setStatus_4 : decode b_M_setStatus 4 = .ok (.ishr, 1) := by decide +kernel
theorem kd_M_setStatus_5 : decode b_M_setStatus 5 = .ok (.iconst 1, 1) := by decide +kernel
theorem kd_M_setStatus_6 : decode b_M_setStatus 6 = .ok (.iand, 1) := by decide +kernel
theorem kd_M_setStatus_7 : decode b_M_setStatus 7 = .ok (.putfield 119, 3) := by decide +kernel
theorem kd_M_setStatus_10 : decode b_M_setStatus 10 = .ok (.aload_n 0, 1) := by decide +kernel
theorem kd_M_setStatus_11 : decode b_M_setStatus 11 = .ok (.iload_n 1, 1) := by decide +kernel
theorem kd_M_setStatus_12 : decode b_M_setStatus 12 = .ok (.bipush 13, 2) := by decide +kernel
theorem kd_M_setStatus_14 : decode b_M_setStatus 14 = .ok (.ishr, 1) := by decide +kernel
theorem kd_M_setStatus_15 : decode b_M_setStatus 15 = .ok (.iconst 1, 1) := by decide +kernel
theorem kd_M_setStatus_16 : decode b_M_setStatus 16 = .ok (.iand, 1) := by decide +kernel
theorem kd_M_setStatus_17 : decode b_M_setStatus 17 = .ok (.invokevirtual 140, 3) := by decide +kernel
theorem kd_M_setStatus_20 : decode b_M_setStatus 20 = .ok (.aload_n 0, 1) := by decide +kernel
theorem kd_M_setStatus_21 : decode b_M_setStatus 21 = .ok (.iload_n 1, 1) := by decide +kernel
theorem kd_M_setStatus_22 : decode b_M_setStatus 22 = .ok (.bipush 8, 2) := by decide +kernel
theorem kd_M_setStatus_24 : decode b_M_setStatus 24 = .ok (.ishr, 1) := by decide +kernel
theorem kd_M_setStatus_25 : decode b_M_setStatus 25 = .ok (.bipush 7, 2) := by decide +kernel
theorem kd_M_setStatus_27 : decode b_M_setStatus 27 = .ok (.iand, 1) := by decide +kernel
theorem kd_M_setStatus_28 : decode b_M_setStatus 28 = .ok (.putfield 23, 3) := by decide +kernel
theorem kd_M_setStatus_31 : decode b_M_setStatus 31 = .ok (.aload_n 0, 1) := by decide +kernel
theorem kd_M_setStatus_32 : decode b_M_setStatus 32 = .ok (.iload_n 1, 1) := by decide +kernel
theorem kd_M_setStatus_33 : decode b_M_setStatus 33 = .ok (.iconst 4, 1) := by decide +kernel
theorem kd_M_setStatus_34 : decode b_M_setStatus 34 = .ok (.ishr, 1) := by decide +kernel
theorem kd_M_setStatus_35 : decode b_M_setStatus 35 = .ok (.iconst 1, 1) := by decide +kernel
theorem kd_M_setStatus_36 : decode b_M_setStatus 36 = .ok (.iand, 1) := by decide +kernel
theorem kd_M_setStatus_37 : decode b_M_setStatus 37 = .ok (.putfield 122, 3) := by decide +kernel
theorem kd_M_setStatus_40 : decode b_M_setStatus 40 = .ok (.aload_n 0, 1) := by decide +kernel
theorem kd_M_setStatus_41 : decode b_M_setStatus 41 = .ok (.iload_n 1, 1) := by decide +kernel
theorem kd_M_setStatus_42 : decode b_M_setStatus 42 = .ok (.iconst 3, 1) := by decide +kernel
theorem kd_M_setStatus_43 : decode b_M_setStatus 43 = .ok (.ishr, 1) := by decide +kernel
theorem kd_M_setStatus_44 : decode b_M_setStatus 44 = .ok (.iconst 1, 1) := by decide +kernel
theorem kd_M_setStatus_45 : decode b_M_setStatus 45 = .ok (.iand, 1) := by decide +kernel
theorem kd_M_setStatus_46 : decode b_M_setStatus 46 = .ok (.putfield 125, 3) := by decide +kernel
theorem kd_M_setStatus_49 : decode b_M_setStatus 49 = .ok (.aload_n 0, 1) := by decide +kernel
theorem kd_M_setStatus_50 : decode b_M_setStatus 50 = .ok (.iload_n 1, 1) := by decide +kernel
theorem kd_M_setStatus_51 : decode b_M_setStatus 51 = .ok (.iconst 2, 1) := by decide +kernel
theorem kd_M_setStatus_52 : decode b_M_setStatus 52 = .ok (.ishr, 1) := by decide +kernel
theorem kd_M_setStatus_53 : decode b_M_setStatus 53 = .ok (.iconst 1, 1) := by decide +kernel
theorem kd_M_setStatus_54 : decode b_M_setStatus 54 = .ok (.iand, 1) := by decide +kernel
theorem kd_M_setStatus_55 : decode b_M_setStatus 55 = .ok (.putfield 128, 3) := by decide +kernel
theorem kd_M_setStatus_58 : decode b_M_setStatus 58 = .ok (.aload_n 0, 1) := by decide +kernel
theorem kd_M_setStatus_59 : decode b_M_setStatus 59 = .ok (.iload_n 1, 1) := by decide +kernel
theorem kd_M_setStatus_60 : decode b_M_setStatus 60 = .ok (.iconst 1, 1) := by decide +kernel
theorem kd_M_setStatus_61 : decode b_M_setStatus 61 = .ok (.ishr, 1) := by decide +kernel
theorem kd_M_setStatus_62 : decode b_M_setStatus 62 = .ok (.iconst 1, 1) := by decide +kernel
theorem kd_M_setStatus_63 : decode b_M_setStatus 63 = .ok (.iand, 1) := by decide +kernel
theorem kd_M_setStatus_64 : decode b_M_setStatus 64 = .ok (.putfield 131, 3) := by decide +kernel
theorem kd_M_setStatus_67 : decode b_M_setStatus 67 = .ok (.aload_n 0, 1) := by decide +kernel
theorem kd_M_setStatus_68 : decode b_M_setStatus 68 = .ok (.iload_n 1, 1) := by decide +kernel
theorem kd_M_setStatus_69 : decode b_M_setStatus 69 = .ok (.iconst 1, 1) := by decide +kernel
theorem kd_M_setStatus_70 : decode b_M_setStatus 70 = .ok (.iand, 1) := by decide +kernel
theorem kd_M_setStatus_71 : decode b_M_setStatus 71 = .ok (.putfield 134, 3) := by decide +kernel
theorem kd_M_setStatus_74 : decode b_M_setStatus 74 = .ok (.return_, 1) := by decide +kernel
noncomputable def f_M_setStatus (s0 : ZS) (x1 : Int32) : Option (ZS) :=
  zs_nm (zs_up s0 0 3 ((zo_shr x1 15) &&& 1)) fun s1 =>
  (f_M_setAbove s1 ((zo_shr x1 13) &&& 1)).bind fun s2 =>
  zs_nm (zs_up s2 0 5 ((zo_shr x1 8) &&& 7)) fun s3 =>
  zs_nm (zs_up s3 0 6 ((zo_shr x1 4) &&& 1)) fun s4 =>
  zs_nm (zs_up s4 0 7 ((zo_shr x1 3) &&& 1)) fun s5 =>
  zs_nm (zs_up s5 0 8 ((zo_shr x1 2) &&& 1)) fun s6 =>
  zs_nm (zs_up s6 0 9 ((zo_shr x1 1) &&& 1)) fun s7 =>
  zs_nm (zs_up s7 0 10 (x1 &&& 1)) fun s8 =>
  some s8
theorem j_M_setStatus {P : ZP} {E : ZE} {A : Nat → Prop} (X : ZX E (zmV P) A "FrameMachineModel" b_M_setStatus 2 none 1 22) (s0 : ZS) (x1 : Int32) : ZJ E (zmV P) A 2 (zFv E (zmV P) A) 0 [(0, .ref (P.1 0)), (1, .int x1)] [] s0 (f_M_setStatus s0 x1) := by
  unfold f_M_setStatus
  refine zj_aload_n 1 0 X kd_M_setStatus_0 rfl rfl rfl ?_
  refine zj_iload_n 2 1 X kd_M_setStatus_1 rfl rfl rfl ?_
  refine zj_bipush 4 15 X kd_M_setStatus_2 kb_15 rfl ?_
  refine zj_ishr 5 X kd_M_setStatus_4 rfl ?_
  refine zj_iconst 6 1 X kd_M_setStatus_5 ki_1 rfl ?_
  refine zj_iand 7 X kd_M_setStatus_6 rfl ?_
  refine pf_M_119 10 X kd_M_setStatus_7 rfl ?_
  refine zj_nms (fun s1 => ?_)
  refine zj_aload_n 11 0 X kd_M_setStatus_10 rfl rfl rfl ?_
  refine zj_iload_n 12 1 X kd_M_setStatus_11 rfl rfl rfl ?_
  refine zj_bipush 14 13 X kd_M_setStatus_12 kb_13 rfl ?_
  refine zj_ishr 15 X kd_M_setStatus_14 rfl ?_
  refine zj_iconst 16 1 X kd_M_setStatus_15 ki_1 rfl ?_
  refine zj_iand 17 X kd_M_setStatus_16 rfl ?_
  refine mc_M_140 20 X kd_M_setStatus_17 (Nat.le_of_ble_eq_true rfl) (Nat.le_of_ble_eq_true rfl) (Nat.le_of_ble_eq_true rfl) rfl (fun s2 => ?_)
  refine zj_aload_n 21 0 X kd_M_setStatus_20 rfl rfl rfl ?_
  refine zj_iload_n 22 1 X kd_M_setStatus_21 rfl rfl rfl ?_
  refine zj_bipush 24 8 X kd_M_setStatus_22 kb_8 rfl ?_
  refine zj_ishr 25 X kd_M_setStatus_24 rfl ?_
  refine zj_bipush 27 7 X kd_M_setStatus_25 kb_7 rfl ?_
  refine zj_iand 28 X kd_M_setStatus_27 rfl ?_
  refine pf_M_23 31 X kd_M_setStatus_28 rfl ?_
  refine zj_nms (fun s3 => ?_)
  refine zj_aload_n 32 0 X kd_M_setStatus_31 rfl rfl rfl ?_
  refine zj_iload_n 33 1 X kd_M_setStatus_32 rfl rfl rfl ?_
  refine zj_iconst 34 4 X kd_M_setStatus_33 ki_4 rfl ?_
  refine zj_ishr 35 X kd_M_setStatus_34 rfl ?_
  refine zj_iconst 36 1 X kd_M_setStatus_35 ki_1 rfl ?_
  refine zj_iand 37 X kd_M_setStatus_36 rfl ?_
  refine pf_M_122 40 X kd_M_setStatus_37 rfl ?_
  refine zj_nms (fun s4 => ?_)
  refine zj_aload_n 41 0 X kd_M_setStatus_40 rfl rfl rfl ?_
  refine zj_iload_n 42 1 X kd_M_setStatus_41 rfl rfl rfl ?_
  refine zj_iconst 43 3 X kd_M_setStatus_42 ki_3 rfl ?_
  refine zj_ishr 44 X kd_M_setStatus_43 rfl ?_
  refine zj_iconst 45 1 X kd_M_setStatus_44 ki_1 rfl ?_
  refine zj_iand 46 X kd_M_setStatus_45 rfl ?_
  refine pf_M_125 49 X kd_M_setStatus_46 rfl ?_
  refine zj_nms (fun s5 => ?_)
  refine zj_aload_n 50 0 X kd_M_setStatus_49 rfl rfl rfl ?_
  refine zj_iload_n 51 1 X kd_M_setStatus_50 rfl rfl rfl ?_
  refine zj_iconst 52 2 X kd_M_setStatus_51 ki_2 rfl ?_
  refine zj_ishr 53 X kd_M_setStatus_52 rfl ?_
  refine zj_iconst 54 1 X kd_M_setStatus_53 ki_1 rfl ?_
  refine zj_iand 55 X kd_M_setStatus_54 rfl ?_
  refine pf_M_128 58 X kd_M_setStatus_55 rfl ?_
  refine zj_nms (fun s6 => ?_)
  refine zj_aload_n 59 0 X kd_M_setStatus_58 rfl rfl rfl ?_
  refine zj_iload_n 60 1 X kd_M_setStatus_59 rfl rfl rfl ?_
  refine zj_iconst 61 1 X kd_M_setStatus_60 ki_1 rfl ?_
  refine zj_ishr 62 X kd_M_setStatus_61 rfl ?_
  refine zj_iconst 63 1 X kd_M_setStatus_62 ki_1 rfl ?_
  refine zj_iand 64 X kd_M_setStatus_63 rfl ?_
  refine pf_M_131 67 X kd_M_setStatus_64 rfl ?_
  refine zj_nms (fun s7 => ?_)
  refine zj_aload_n 68 0 X kd_M_setStatus_67 rfl rfl rfl ?_
  refine zj_iload_n 69 1 X kd_M_setStatus_68 rfl rfl rfl ?_
  refine zj_iconst 70 1 X kd_M_setStatus_69 ki_1 rfl ?_
  refine zj_iand 71 X kd_M_setStatus_70 rfl ?_
  refine pf_M_134 74 X kd_M_setStatus_71 rfl ?_
  refine zj_nms (fun s8 => ?_)
  exact zj_vret X kd_M_setStatus_74
theorem c_M_setStatus {l : Launch} {P : ZP} (hV : ZVok (zmV P)) (s0 : ZS) (x1 : Int32) {z : ZS} (h : f_M_setStatus s0 x1 = some z) : zMv l y_M_setStatus b_M_setStatus 2 none 1 22 (zmV P) s0 [.ref (P.1 0), .int x1] z :=
  zMv_of (by decide +kernel) rfl rfl (Nat.le_of_ble_eq_true rfl) hV (fun _ X => j_M_setStatus X s0 x1) h
theorem kc_M_215 : zCV "FrameMachineModel" 215 y_M_setStatus b_M_setStatus 2 none 1 := ⟨⟨kw_1017, kw_1019, ksel_50, kw_11, kw_1020⟩, by decide +kernel, by decide +kernel, by decide +kernel⟩
theorem mc_M_215 {ρ : Type} {E : ZE} {P : ZP} {A : Nat → Prop} {cc : ByteArray} {nL : Nat} {ret : Option FieldType} {fr lo : Nat} {F : ρ → State → Prop} {pc : Nat} {L : List (Nat × Value)} {rest : List Value} {σ : ZS} {x1 : Int32} {K : ZS → Option ρ} (q : Nat) (X : ZX E (zmV P) A "FrameMachineModel" cc nL ret fr lo) (d : decode cc pc = .ok (.invokevirtual 215, 3)) (hfr : 1 + 1 ≤ fr) (hlo : 8 + (2 + 11) + 22 ≤ lo) (hr : (rest.map fun v => v.category).sum ≤ 8) (hq : pc + 3 = q) (kk : ∀ p : ZS, ZJ E (zmV P) A nL F q L (rest) p (K p)) : ZJ E (zmV P) A nL F pc L (.int x1 :: .ref (P.1 0) :: rest) σ ((f_M_setStatus σ x1).bind K) :=
  zj_cVv q 0 0 (As := [.int x1]) (rest := rest) X kc_M_215 hfr hlo (fun p h => c_M_setStatus (zx_v X) σ x1 h) rfl rfl rfl hr d hq kk
-- FrameMachineModel.tells(JI)V
theorem kd_M_tells_0 : decode b_M_tells 0 = .ok (.aload_n 0, 1) := by decide +kernel
theorem kd_M_tells_1 : decode b_M_tells 1 = .ok (.lload_n 1, 1) := by decide +kernel
theorem kd_M_tells_2 : decode b_M_tells 2 = .ok (.iload_n 3, 1) := by decide +kernel
theorem kd_M_tells_3 : decode b_M_tells 3 = .ok (.invokestatic 144, 3) := by decide +kernel
theorem kd_M_tells_6 : decode b_M_tells 6 = .ok (.iconst 1, 1) := by decide +kernel
theorem kd_M_tells_7 : decode b_M_tells 7 = .ok (.isub, 1) := by decide +kernel
theorem kd_M_tells_8 : decode b_M_tells 8 = .ok (.lshr, 1) := by decide +kernel
theorem kd_M_tells_9 : decode b_M_tells 9 = .ok (.lconst 1, 1) := by decide +kernel
theorem kd_M_tells_10 : decode b_M_tells 10 = .ok (.land, 1) := by decide +kernel
theorem kd_M_tells_11 : decode b_M_tells 11 = .ok (.l2i, 1) := by decide +kernel
theorem kd_M_tells_12 : decode b_M_tells 12 = .ok (.putfield 125, 3) := by decide +kernel
theorem kd_M_tells_15 : decode b_M_tells 15 = .ok (.aload_n 0, 1) := by decide +kernel
theorem kd_M_tells_16 : decode b_M_tells 16 = .ok (.lload_n 1, 1) := by decide +kernel
theorem kd_M_tells_17 : decode b_M_tells 17 = .ok (.lconst 0, 1) := by decide +kernel
theorem kd_M_tells_18 : decode b_M_tells 18 = .ok (.lcmp, 1) := by decide +kernel
theorem kd_M_tells_19 : decode b_M_tells 19 = .ok (.ifCond .ne 7, 3) := by decide +kernel
theorem kd_M_tells_22 : decode b_M_tells 22 = .ok (.iconst 1, 1) := by decide +kernel
theorem kd_M_tells_23 : decode b_M_tells 23 = .ok (.goto 4, 3) := by decide +kernel
theorem kd_M_tells_26 : decode b_M_tells 26 = .ok (.iconst 0, 1) := by decide +kernel
theorem kd_M_tells_27 : decode b_M_tells 27 = .ok (.putfield 128, 3) := by decide +kernel
theorem kd_M_tells_30 : decode b_M_tells 30 = .ok (.aload_n 0, 1) := by decide +kernel
theorem kd_M_tells_31 : decode b_M_tells 31 = .ok (.iconst 0, 1) := by decide +kernel
theorem kd_M_tells_32 : decode b_M_tells 32 = .ok (.putfield 131, 3) := by decide +kernel
theorem kd_M_tells_35 : decode b_M_tells 35 = .ok (.aload_n 0, 1) := by decide +kernel
theorem kd_M_tells_36 : decode b_M_tells 36 = .ok (.iconst 0, 1) := by decide +kernel
theorem kd_M_tells_37 : decode b_M_tells 37 = .ok (.putfield 134, 3) := by decide +kernel
theorem kd_M_tells_40 : decode b_M_tells 40 = .ok (.return_, 1) := by decide +kernel
noncomputable def f_M_tells_27 (s0 : ZS) (t0 : Int32) : Option (ZS) :=
  zs_nm (zs_up s0 0 8 t0) fun s3 =>
  zs_nm (zs_up s3 0 9 0) fun s4 =>
  zs_nm (zs_up s4 0 10 0) fun s5 =>
  some s5
noncomputable def f_M_tells (s0 : ZS) (x1 : Int64) (x2 : Int32) : Option (ZS) :=
  (f_M_bits s0 x2).bind fun p1 =>
  zs_nm (zs_up p1.2 0 7 (((zo_lshr x1 (p1.1 - 1)) &&& 1).toInt32)) fun s2 =>
  if (lg_cmp x1 0) = 0 then
    f_M_tells_27 s2 1
  else
    f_M_tells_27 s2 0
theorem j_M_tells_27 {P : ZP} {E : ZE} {A : Nat → Prop} (X : ZX E (zmV P) A "FrameMachineModel" b_M_tells 4 none 1 20) (s0 : ZS) (t0 : Int32) : ZJ E (zmV P) A 4 (zFv E (zmV P) A) 27 [(0, .ref (P.1 0))] [.int t0, .ref (P.1 0)] s0 (f_M_tells_27 s0 t0) := by
  unfold f_M_tells_27
  refine pf_M_128 30 X kd_M_tells_27 rfl ?_
  refine zj_nms (fun s3 => ?_)
  refine zj_aload_n 31 0 X kd_M_tells_30 rfl rfl rfl ?_
  refine zj_iconst 32 0 X kd_M_tells_31 ki_0 rfl ?_
  refine pf_M_131 35 X kd_M_tells_32 rfl ?_
  refine zj_nms (fun s4 => ?_)
  refine zj_aload_n 36 0 X kd_M_tells_35 rfl rfl rfl ?_
  refine zj_iconst 37 0 X kd_M_tells_36 ki_0 rfl ?_
  refine pf_M_134 40 X kd_M_tells_37 rfl ?_
  refine zj_nms (fun s5 => ?_)
  exact zj_vret X kd_M_tells_40
theorem j_M_tells {P : ZP} {E : ZE} {A : Nat → Prop} (X : ZX E (zmV P) A "FrameMachineModel" b_M_tells 4 none 1 20) (s0 : ZS) (x1 : Int64) (x2 : Int32) : ZJ E (zmV P) A 4 (zFv E (zmV P) A) 0 [(0, .ref (P.1 0)), (1, .long x1), (3, .int x2)] [] s0 (f_M_tells s0 x1 x2) := by
  unfold f_M_tells
  refine zj_aload_n 1 0 X kd_M_tells_0 rfl rfl rfl ?_
  refine zj_lload_n 2 1 X kd_M_tells_1 rfl rfl rfl ?_
  refine zj_iload_n 3 2 X kd_M_tells_2 rfl rfl rfl ?_
  refine mc_M_144 6 X kd_M_tells_3 (Nat.le_of_ble_eq_true rfl) (Nat.le_of_ble_eq_true rfl) (Nat.le_of_ble_eq_true rfl) rfl (fun p1 => ?_)
  refine zj_iconst 7 1 X kd_M_tells_6 ki_1 rfl ?_
  refine zj_isub 8 X kd_M_tells_7 rfl ?_
  refine zj_lshr 9 X kd_M_tells_8 rfl ?_
  refine zj_lconst 10 1 X kd_M_tells_9 rfl rfl ?_
  refine zj_land 11 X kd_M_tells_10 rfl ?_
  refine zj_l2i 12 X kd_M_tells_11 rfl ?_
  refine pf_M_125 15 X kd_M_tells_12 rfl ?_
  refine zj_nms (fun s2 => ?_)
  refine zj_aload_n 16 0 X kd_M_tells_15 rfl rfl rfl ?_
  refine zj_lload_n 17 1 X kd_M_tells_16 rfl rfl rfl ?_
  refine zj_lconst 18 0 X kd_M_tells_17 rfl rfl ?_
  refine zj_lcmp 19 X kd_M_tells_18 rfl ?_
  refine zj_if_ne 26 22 X kd_M_tells_19 rfl rfl (fun _ => ?_) (fun _ => ?_)
  · refine zj_iconst 23 1 X kd_M_tells_22 ki_1 rfl ?_
    refine zj_goto 27 X kd_M_tells_23 rfl ?_
    refine zj_loc [0] (L2 := [(0, .ref (P.1 0))]) rfl ?_
    exact j_M_tells_27 X s2 1
  · refine zj_iconst 27 0 X kd_M_tells_26 ki_0 rfl ?_
    refine zj_loc [0] (L2 := [(0, .ref (P.1 0))]) rfl ?_
    exact j_M_tells_27 X s2 0
theorem c_M_tells {l : Launch} {P : ZP} (hV : ZVok (zmV P)) (s0 : ZS) (x1 : Int64) (x2 : Int32) {z : ZS} (h : f_M_tells s0 x1 x2 = some z) : zMv l y_M_tells b_M_tells 4 none 1 20 (zmV P) s0 [.ref (P.1 0), .long x1, .int x2] z :=
  zMv_of (by decide +kernel) rfl rfl (Nat.le_of_ble_eq_true rfl) hV (fun _ X => j_M_tells X s0 x1 x2) h
theorem kc_M_170 : zCV "FrameMachineModel" 170 y_M_tells b_M_tells 4 none 2 := ⟨⟨kw_989, kw_991, ksel_44, kw_11, kw_992⟩, by decide +kernel, by decide +kernel, by decide +kernel⟩
theorem mc_M_170 {ρ : Type} {E : ZE} {P : ZP} {A : Nat → Prop} {cc : ByteArray} {nL : Nat} {ret : Option FieldType} {fr lo : Nat} {F : ρ → State → Prop} {pc : Nat} {L : List (Nat × Value)} {rest : List Value} {σ : ZS} {x1 : Int64} {x2 : Int32} {K : ZS → Option ρ} (q : Nat) (X : ZX E (zmV P) A "FrameMachineModel" cc nL ret fr lo) (d : decode cc pc = .ok (.invokevirtual 170, 3)) (hfr : 1 + 1 ≤ fr) (hlo : 8 + (4 + 11) + 20 ≤ lo) (hr : (rest.map fun v => v.category).sum ≤ 8) (hq : pc + 3 = q) (kk : ∀ p : ZS, ZJ E (zmV P) A nL F q L (rest) p (K p)) : ZJ E (zmV P) A nL F pc L (.int x2 :: .long x1 :: .ref (P.1 0) :: rest) σ ((f_M_tells σ x1 x2).bind K) :=
  zj_cVv q 0 0 (As := [.long x1, .int x2]) (rest := rest) X kc_M_170 hfr hlo (fun p h => c_M_tells (zx_v X) σ x1 x2 h) rfl rfl rfl hr d hq kk
-- FrameMachineModel.any(II)Z
theorem kd_M_any_0 : decode b_M_any 0 = .ok (.iload_n 0, 1) := by decide +kernel
theorem kd_M_any_1 : decode b_M_any 1 = .ok (.bipush 6, 2) := by decide +kernel
theorem kd_M_any_3 : decode b_M_any 3 = .ok (.if_icmp .lt 14, 3) := by decide +kernel
theorem kd_M_any_6 : decode b_M_any 6 = .ok (.iload_n 0, 1) := by decide +kernel
theorem kd_M_any_7 : decode b_M_any 7 = .ok (.bipush 6, 2) := by decide +kernel
theorem kd_M_any_9 : decode b_M_any 9 = .ok (.if_icmp .ne 12, 3) := by decide +kernel
theorem kd_M_any_12 : decode b_M_any 12 = .ok (.iload_n 1, 1) := by decide +kernel
theorem kd_M_any_13 : decode b_M_any 13 = .ok (.iconst 4, 1) := by decide +kernel
theorem kd_M_any_14 : decode b_M_any 14 = .ok (.if_icmp .ge 7, 3) := by decide +kernel
theorem kd_M_any_17 : decode b_M_any 17 = .ok (.iconst 1, 1) := by decide +kernel
theorem kd_M_any_18 : decode b_M_any 18 = .ok (.goto 4, 3) := by decide +kernel
theorem kd_M_any_21 : decode b_M_any 21 = .ok (.iconst 0, 1) := by decide +kernel
theorem kd_M_any_22 : decode b_M_any 22 = .ok (.ireturn, 1) := by decide +kernel
noncomputable def f_M_any_17 (s0 : ZS)  : Option (Int32 × ZS) :=
  some (1, s0)
noncomputable def f_M_any (s0 : ZS) (x1 : Int32) (x2 : Int32) : Option (Int32 × ZS) :=
  if x1 < 6 then
    f_M_any_17 s0
  else
    if x1 = 6 then
      if 4 ≤ x2 then
        some (0, s0)
      else
        f_M_any_17 s0
    else
      some (0, s0)
theorem j_M_any_17 {P : ZP} {E : ZE} {A : Nat → Prop} (X : ZX E (zmV P) A "FrameMachineModel" b_M_any 2 (some .boolean) 0 0) (s0 : ZS)  : ZJ E (zmV P) A 2 (zFi E (zmV P) A) 17 [] [] s0 (f_M_any_17 s0) := by
  unfold f_M_any_17
  refine zj_iconst 18 1 X kd_M_any_17 ki_1 rfl ?_
  refine zj_goto 22 X kd_M_any_18 rfl ?_
  exact zj_zret X kd_M_any_22 (Or.inr rfl)
theorem j_M_any {P : ZP} {E : ZE} {A : Nat → Prop} (X : ZX E (zmV P) A "FrameMachineModel" b_M_any 2 (some .boolean) 0 0) (s0 : ZS) (x1 : Int32) (x2 : Int32) : ZJ E (zmV P) A 2 (zFi E (zmV P) A) 0 [(0, .int x1), (1, .int x2)] [] s0 (f_M_any s0 x1 x2) := by
  unfold f_M_any
  refine zj_iload_n 1 0 X kd_M_any_0 rfl rfl rfl ?_
  refine zj_bipush 3 6 X kd_M_any_1 kb_6 rfl ?_
  refine zj_icmp_lt 17 6 X kd_M_any_3 rfl rfl (fun _ => ?_) (fun _ => ?_)
  · refine zj_loc [] (L2 := []) rfl ?_
    exact j_M_any_17 X s0
  · refine zj_iload_n 7 0 X kd_M_any_6 rfl rfl rfl ?_
    refine zj_bipush 9 6 X kd_M_any_7 kb_6 rfl ?_
    refine zj_icmp_ne 21 12 X kd_M_any_9 rfl rfl (fun _ => ?_) (fun _ => ?_)
    · refine zj_iload_n 13 1 X kd_M_any_12 rfl rfl rfl ?_
      refine zj_iconst 14 4 X kd_M_any_13 ki_4 rfl ?_
      refine zj_icmp_ge 21 17 X kd_M_any_14 rfl rfl (fun _ => ?_) (fun _ => ?_)
      · refine zj_iconst 22 0 X kd_M_any_21 ki_0 rfl ?_
        exact zj_zret X kd_M_any_22 (Or.inl rfl)
      · refine zj_loc [] (L2 := []) rfl ?_
        exact j_M_any_17 X s0
    · refine zj_iconst 22 0 X kd_M_any_21 ki_0 rfl ?_
      exact zj_zret X kd_M_any_22 (Or.inl rfl)
theorem c_M_any {l : Launch} {P : ZP} (hV : ZVok (zmV P)) (s0 : ZS) (x1 : Int32) (x2 : Int32) {z : Int32 × ZS} (h : f_M_any s0 x1 x2 = some z) : zMi l y_M_any b_M_any 2 (some .boolean) 0 0 (zmV P) s0 [.int x1, .int x2] z :=
  zMi_of (by decide +kernel) rfl rfl (Nat.le_of_ble_eq_true rfl) hV (fun _ X => j_M_any X s0 x1 x2) h
theorem kc_M_147 : zCS "FrameMachineModel" 147 y_M_any b_M_any 2 (some .boolean) 2 := ⟨⟨kw_963, kw_964, kw_11, kw_965⟩, by decide +kernel, by decide +kernel, by decide +kernel⟩
theorem mc_M_147 {ρ : Type} {E : ZE} {P : ZP} {A : Nat → Prop} {cc : ByteArray} {nL : Nat} {ret : Option FieldType} {fr lo : Nat} {F : ρ → State → Prop} {pc : Nat} {L : List (Nat × Value)} {rest : List Value} {σ : ZS} {x1 : Int32} {x2 : Int32} {K : Int32 × ZS → Option ρ} (q : Nat) (X : ZX E (zmV P) A "FrameMachineModel" cc nL ret fr lo) (d : decode cc pc = .ok (.invokestatic 147, 3)) (hfr : 0 + 1 ≤ fr) (hlo : 8 + (2 + 11) + 0 ≤ lo) (hr : (rest.map fun v => v.category).sum ≤ 8) (hq : pc + 3 = q) (kk : ∀ p : Int32 × ZS, ZJ E (zmV P) A nL F q L (.int p.1 :: rest) p.2 (K p)) : ZJ E (zmV P) A nL F pc L (.int x2 :: .int x1 :: rest) σ ((f_M_any σ x1 x2).bind K) :=
  zj_cSi q (As := [.int x1, .int x2]) (rest := rest) X kc_M_147 hfr hlo (fun p h => c_M_any (zx_v X) σ x1 x2 h) rfl hr d hq kk
-- FrameMachineModel.data(II)Z
theorem kd_M_data_0 : decode b_M_data 0 = .ok (.iload_n 0, 1) := by decide +kernel
theorem kd_M_data_1 : decode b_M_data 1 = .ok (.iconst 1, 1) := by decide +kernel
theorem kd_M_data_2 : decode b_M_data 2 = .ok (.if_icmp .eq 15, 3) := by decide +kernel
theorem kd_M_data_5 : decode b_M_data 5 = .ok (.iload_n 0, 1) := by decide +kernel
theorem kd_M_data_6 : decode b_M_data 6 = .ok (.iload_n 1, 1) := by decide +kernel
theorem kd_M_data_7 : decode b_M_data 7 = .ok (.invokestatic 147, 3) := by decide +kernel
theorem kd_M_data_10 : decode b_M_data 10 = .ok (.ifCond .eq 7, 3) := by decide +kernel
theorem kd_M_data_13 : decode b_M_data 13 = .ok (.iconst 1, 1) := by decide +kernel
theorem kd_M_data_14 : decode b_M_data 14 = .ok (.goto 4, 3) := by decide +kernel
theorem kd_M_data_17 : decode b_M_data 17 = .ok (.iconst 0, 1) := by decide +kernel
theorem kd_M_data_18 : decode b_M_data 18 = .ok (.ireturn, 1) := by decide +kernel
noncomputable def f_M_data (s0 : ZS) (x1 : Int32) (x2 : Int32) : Option (Int32 × ZS) :=
  if x1 = 1 then
    some (0, s0)
  else
    (f_M_any s0 x1 x2).bind fun p1 =>
    if p1.1 = 0 then
      some (0, p1.2)
    else
      some (1, p1.2)
theorem j_M_data {P : ZP} {E : ZE} {A : Nat → Prop} (X : ZX E (zmV P) A "FrameMachineModel" b_M_data 2 (some .boolean) 1 21) (s0 : ZS) (x1 : Int32) (x2 : Int32) : ZJ E (zmV P) A 2 (zFi E (zmV P) A) 0 [(0, .int x1), (1, .int x2)] [] s0 (f_M_data s0 x1 x2) := by
  unfold f_M_data
  refine zj_iload_n 1 0 X kd_M_data_0 rfl rfl rfl ?_
  refine zj_iconst 2 1 X kd_M_data_1 ki_1 rfl ?_
  refine zj_icmp_eq 17 5 X kd_M_data_2 rfl rfl (fun _ => ?_) (fun _ => ?_)
  · refine zj_iconst 18 0 X kd_M_data_17 ki_0 rfl ?_
    exact zj_zret X kd_M_data_18 (Or.inl rfl)
  · refine zj_iload_n 6 0 X kd_M_data_5 rfl rfl rfl ?_
    refine zj_iload_n 7 1 X kd_M_data_6 rfl rfl rfl ?_
    refine mc_M_147 10 X kd_M_data_7 (Nat.le_of_ble_eq_true rfl) (Nat.le_of_ble_eq_true rfl) (Nat.le_of_ble_eq_true rfl) rfl (fun p1 => ?_)
    refine zj_if_eq 17 13 X kd_M_data_10 rfl rfl (fun _ => ?_) (fun _ => ?_)
    · refine zj_iconst 18 0 X kd_M_data_17 ki_0 rfl ?_
      exact zj_zret X kd_M_data_18 (Or.inl rfl)
    · refine zj_iconst 14 1 X kd_M_data_13 ki_1 rfl ?_
      refine zj_goto 18 X kd_M_data_14 rfl ?_
      exact zj_zret X kd_M_data_18 (Or.inr rfl)
theorem c_M_data {l : Launch} {P : ZP} (hV : ZVok (zmV P)) (s0 : ZS) (x1 : Int32) (x2 : Int32) {z : Int32 × ZS} (h : f_M_data s0 x1 x2 = some z) : zMi l y_M_data b_M_data 2 (some .boolean) 1 21 (zmV P) s0 [.int x1, .int x2] z :=
  zMi_of (by decide +kernel) rfl rfl (Nat.le_of_ble_eq_true rfl) hV (fun _ X => j_M_data X s0 x1 x2) h
theorem kc_M_189 : zCS "FrameMachineModel" 189 y_M_data b_M_data 2 (some .boolean) 2 := ⟨⟨kw_966, kw_967, kw_11, kw_968⟩, by decide +kernel, by decide +kernel, by decide +kernel⟩
theorem mc_M_189 {ρ : Type} {E : ZE} {P : ZP} {A : Nat → Prop} {cc : ByteArray} {nL : Nat} {ret : Option FieldType} {fr lo : Nat} {F : ρ → State → Prop} {pc : Nat} {L : List (Nat × Value)} {rest : List Value} {σ : ZS} {x1 : Int32} {x2 : Int32} {K : Int32 × ZS → Option ρ} (q : Nat) (X : ZX E (zmV P) A "FrameMachineModel" cc nL ret fr lo) (d : decode cc pc = .ok (.invokestatic 189, 3)) (hfr : 1 + 1 ≤ fr) (hlo : 8 + (2 + 11) + 21 ≤ lo) (hr : (rest.map fun v => v.category).sum ≤ 8) (hq : pc + 3 = q) (kk : ∀ p : Int32 × ZS, ZJ E (zmV P) A nL F q L (.int p.1 :: rest) p.2 (K p)) : ZJ E (zmV P) A nL F pc L (.int x2 :: .int x1 :: rest) σ ((f_M_data σ x1 x2).bind K) :=
  zj_cSi q (As := [.int x1, .int x2]) (rest := rest) X kc_M_189 hfr hlo (fun p h => c_M_data (zx_v X) σ x1 x2 h) rfl hr d hq kk
-- FrameMachineModel.alterable(II)Z
theorem kd_M_alterable_0 : decode b_M_alterable 0 = .ok (.iload_n 0, 1) := by decide +kernel
theorem kd_M_alterable_1 : decode b_M_alterable 1 = .ok (.iconst 1, 1) := by decide +kernel
theorem kd_M_alterable_2 : decode b_M_alterable 2 = .ok (.if_icmp .eq 24, 3) := by decide +kernel
theorem kd_M_alterable_5 : decode b_M_alterable 5 = .ok (.iload_n 0, 1) := by decide +kernel
theorem kd_M_alterable_6 : decode b_M_alterable 6 = .ok (.bipush 6, 2) := by decide +kernel
theorem kd_M_alterable_8 : decode b_M_alterable 8 = .ok (.if_icmp .lt 14, 3) := by decide +kernel
theorem kd_M_alterable_11 : decode b_M_alterable 11 = .ok (.iload_n 0, 1) := by decide +kernel
theorem kd_M_alterable_12 : decode b_M_alterable 12 = .ok (.bipush 6, 2) := by decide +kernel
theorem kd_M_alterable_14 : decode b_M_alterable 14 = .ok (.if_icmp .ne 12, 3) := by decide +kernel
theorem kd_M_alterable_17 : decode b_M_alterable 17 = .ok (.iload_n 1, 1) := by decide +kernel
theorem kd_M_alterable_18 : decode b_M_alterable 18 = .ok (.iconst 2, 1) := by decide +kernel
theorem kd_M_alterable_19 : decode b_M_alterable 19 = .ok (.if_icmp .ge 7, 3) := by decide +kernel
theorem kd_M_alterable_22 : decode b_M_alterable 22 = .ok (.iconst 1, 1) := by decide +kernel
theorem kd_M_alterable_23 : decode b_M_alterable 23 = .ok (.goto 4, 3) := by decide +kernel
theorem kd_M_alterable_26 : decode b_M_alterable 26 = .ok (.iconst 0, 1) := by decide +kernel
theorem kd_M_alterable_27 : decode b_M_alterable 27 = .ok (.ireturn, 1) := by decide +kernel
noncomputable def f_M_alterable_22 (s0 : ZS)  : Option (Int32 × ZS) :=
  some (1, s0)
noncomputable def f_M_alterable (s0 : ZS) (x1 : Int32) (x2 : Int32) : Option (Int32 × ZS) :=
  if x1 = 1 then
    some (0, s0)
  else
    if x1 < 6 then
      f_M_alterable_22 s0
    else
      if x1 = 6 then
        if 2 ≤ x2 then
          some (0, s0)
        else
          f_M_alterable_22 s0
      else
        some (0, s0)
theorem j_M_alterable_22 {P : ZP} {E : ZE} {A : Nat → Prop} (X : ZX E (zmV P) A "FrameMachineModel" b_M_alterable 2 (some .boolean) 0 0) (s0 : ZS)  : ZJ E (zmV P) A 2 (zFi E (zmV P) A) 22 [] [] s0 (f_M_alterable_22 s0) := by
  unfold f_M_alterable_22
  refine zj_iconst 23 1 X kd_M_alterable_22 ki_1 rfl ?_
  refine zj_goto 27 X kd_M_alterable_23 rfl ?_
  exact zj_zret X kd_M_alterable_27 (Or.inr rfl)
theorem j_M_alterable {P : ZP} {E : ZE} {A : Nat → Prop} (X : ZX E (zmV P) A "FrameMachineModel" b_M_alterable 2 (some .boolean) 0 0) (s0 : ZS) (x1 : Int32) (x2 : Int32) : ZJ E (zmV P) A 2 (zFi E (zmV P) A) 0 [(0, .int x1), (1, .int x2)] [] s0 (f_M_alterable s0 x1 x2) := by
  unfold f_M_alterable
  refine zj_iload_n 1 0 X kd_M_alterable_0 rfl rfl rfl ?_
  refine zj_iconst 2 1 X kd_M_alterable_1 ki_1 rfl ?_
  refine zj_icmp_eq 26 5 X kd_M_alterable_2 rfl rfl (fun _ => ?_) (fun _ => ?_)
  · refine zj_iconst 27 0 X kd_M_alterable_26 ki_0 rfl ?_
    exact zj_zret X kd_M_alterable_27 (Or.inl rfl)
  · refine zj_iload_n 6 0 X kd_M_alterable_5 rfl rfl rfl ?_
    refine zj_bipush 8 6 X kd_M_alterable_6 kb_6 rfl ?_
    refine zj_icmp_lt 22 11 X kd_M_alterable_8 rfl rfl (fun _ => ?_) (fun _ => ?_)
    · refine zj_loc [] (L2 := []) rfl ?_
      exact j_M_alterable_22 X s0
    · refine zj_iload_n 12 0 X kd_M_alterable_11 rfl rfl rfl ?_
      refine zj_bipush 14 6 X kd_M_alterable_12 kb_6 rfl ?_
      refine zj_icmp_ne 26 17 X kd_M_alterable_14 rfl rfl (fun _ => ?_) (fun _ => ?_)
      · refine zj_iload_n 18 1 X kd_M_alterable_17 rfl rfl rfl ?_
        refine zj_iconst 19 2 X kd_M_alterable_18 ki_2 rfl ?_
        refine zj_icmp_ge 26 22 X kd_M_alterable_19 rfl rfl (fun _ => ?_) (fun _ => ?_)
        · refine zj_iconst 27 0 X kd_M_alterable_26 ki_0 rfl ?_
          exact zj_zret X kd_M_alterable_27 (Or.inl rfl)
        · refine zj_loc [] (L2 := []) rfl ?_
          exact j_M_alterable_22 X s0
      · refine zj_iconst 27 0 X kd_M_alterable_26 ki_0 rfl ?_
        exact zj_zret X kd_M_alterable_27 (Or.inl rfl)
theorem c_M_alterable {l : Launch} {P : ZP} (hV : ZVok (zmV P)) (s0 : ZS) (x1 : Int32) (x2 : Int32) {z : Int32 × ZS} (h : f_M_alterable s0 x1 x2 = some z) : zMi l y_M_alterable b_M_alterable 2 (some .boolean) 0 0 (zmV P) s0 [.int x1, .int x2] z :=
  zMi_of (by decide +kernel) rfl rfl (Nat.le_of_ble_eq_true rfl) hV (fun _ X => j_M_alterable X s0 x1 x2) h
theorem kc_M_186 : zCS "FrameMachineModel" 186 y_M_alterable b_M_alterable 2 (some .boolean) 2 := ⟨⟨kw_960, kw_961, kw_11, kw_962⟩, by decide +kernel, by decide +kernel, by decide +kernel⟩
theorem mc_M_186 {ρ : Type} {E : ZE} {P : ZP} {A : Nat → Prop} {cc : ByteArray} {nL : Nat} {ret : Option FieldType} {fr lo : Nat} {F : ρ → State → Prop} {pc : Nat} {L : List (Nat × Value)} {rest : List Value} {σ : ZS} {x1 : Int32} {x2 : Int32} {K : Int32 × ZS → Option ρ} (q : Nat) (X : ZX E (zmV P) A "FrameMachineModel" cc nL ret fr lo) (d : decode cc pc = .ok (.invokestatic 186, 3)) (hfr : 0 + 1 ≤ fr) (hlo : 8 + (2 + 11) + 0 ≤ lo) (hr : (rest.map fun v => v.category).sum ≤ 8) (hq : pc + 3 = q) (kk : ∀ p : Int32 × ZS, ZJ E (zmV P) A nL F q L (.int p.1 :: rest) p.2 (K p)) : ZJ E (zmV P) A nL F pc L (.int x2 :: .int x1 :: rest) σ ((f_M_alterable σ x1 x2).bind K) :=
  zj_cSi q (As := [.int x1, .int x2]) (rest := rest) X kc_M_186 hfr hlo (fun p h => c_M_alterable (zx_v X) σ x1 x2 h) rfl hr d hq kk
