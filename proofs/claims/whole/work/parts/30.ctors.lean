/-! The constructors, over one list of classes for both sides. -/
abbrev zq_cl : List vw_C := [("FrameMachine", zT_F, 5), ("FrameMachine$Devices", zT_D, 11), ("FrameMachine$Bus", zT_B, 5), ("FrameMachine$Registers", zT_G, 5), ("FrameMachine$Pointers", zT_Q, 2), ("FrameMachine$Exceptions", zT_E, 6), ("FrameMachine$Processor", zT_P, 11), ("FrameMachine$Instruction", zT_I, 6), ("FrameMachine$Operand", zT_O, 8), ("FrameMachine$Arithmetic", zT_A, 1), ("FrameMachineModel", zT_M, 35)]
abbrev b_D_init : ByteArray := prog_4_method_1_code
def y_D_init : MethodName := ⟨"FrameMachine$Devices", "<init>", "()V"⟩
theorem kd_D_init_0 : decode b_D_init 0 = .ok (.aload_n 0, 1) := by decide +kernel
theorem kd_D_init_1 : decode b_D_init 1 = .ok (.invokespecial 3, 3) := by decide +kernel
theorem kd_D_init_4 : decode b_D_init 4 = .ok (.aload_n 0, 1) := by decide +kernel
theorem kd_D_init_5 : decode b_D_init 5 = .ok (.sipush 256, 3) := by decide +kernel
theorem kd_D_init_8 : decode b_D_init 8 = .ok (.putfield 11, 3) := by decide +kernel
theorem kd_D_init_11 : decode b_D_init 11 = .ok (.aload_n 0, 1) := by decide +kernel
theorem kd_D_init_12 : decode b_D_init 12 = .ok (.sipush 256, 3) := by decide +kernel
theorem kd_D_init_15 : decode b_D_init 15 = .ok (.putfield 15, 3) := by decide +kernel
theorem kd_D_init_18 : decode b_D_init 18 = .ok (.aload_n 0, 1) := by decide +kernel
theorem kd_D_init_19 : decode b_D_init 19 = .ok (.bipush 16, 2) := by decide +kernel
theorem kd_D_init_21 : decode b_D_init 21 = .ok (.newarray .int, 2) := by decide +kernel
theorem kd_D_init_23 : decode b_D_init 23 = .ok (.putfield 18, 3) := by decide +kernel
theorem kd_D_init_26 : decode b_D_init 26 = .ok (.return_, 1) := by decide +kernel
theorem kw_29 : (Jvm.Cond.methodLink "FrameMachine$Devices" (3 : Nat) ({ cls := "java/lang/Object", name := "<init>", desc := "()V" } : Jvm.MethodName)) ∈ lw_tbl := zk_1 (List.mem_of_getElem? (i := 29) rfl)
theorem kw_22 : (Jvm.Cond.instanceMethod ({ cls := "java/lang/Object", name := "<init>", desc := "()V" } : Jvm.MethodName)) ∈ lw_tbl := zk_1 (List.mem_of_getElem? (i := 22) rfl)
theorem kw_23 : (Jvm.Cond.code ({ cls := "java/lang/Object", name := "<init>", desc := "()V" } : Jvm.MethodName) object_method_1_code (1 : Nat) (Option.none : Option Jvm.ClassFile.FieldType)) ∈ lw_tbl := zk_1 (List.mem_of_getElem? (i := 23) rfl)
theorem kw_66 : (Jvm.Cond.arrayClass Jvm.ClassFile.FieldType.int) ∈ lw_tbl := zk_1 (List.mem_of_getElem? (i := 66) rfl)
def zp_D_init (h0 : Nat)  (u : Nat × Nat) : va_W := [(h0, .inr (1, [.int 256, .int 256, .int 0, .int 0, .int 0, .int 0, .int 0, .int 0, .int 0, .int 0, .ref u.1])), (u.1, .inl (u.2, 16, .inl (fun _ => 0)))]
def zq_D_init (u : Nat × Nat) : List (ClassId × FieldType) := [(u.2, .int)]
theorem c_D_init (l : Launch) (D : va_G) (h0 : Nat)  (sz : Nat) : Met l y_D_init (Cond.code y_D_init b_D_init 1 none :: zw_w) ({ frames := 1, cells := 1, slots := 16, locals := 12 }) (va_Pc [.ref h0] (fun U => U.heap.size = sz ∧ va_P D zq_cl [(h0, .inr (1, [.int 0, .int 0, .int 0, .int 0, .int 0, .int 0, .int 0, .int 0, .int 0, .int 0, .null]))] U.heap ∧ va_K D zq_cl [] U ∧ va_D (fun _ => True) [(h0, .inr (1, [.int 0, .int 0, .int 0, .int 0, .int 0, .int 0, .int 0, .int 0, .int 0, .int 0, .null]))] ∧ zw_N U)) (va_Qv (fun _ : Nat × Nat => True) (fun u t => va_P D zq_cl (zp_D_init h0  u) t.heap ∧ va_K D zq_cl (zq_D_init u) t ∧ va_D (va_A [(h0, .inr (1, [.int 0, .int 0, .int 0, .int 0, .int 0, .int 0, .int 0, .int 0, .int 0, .int 0, .null]))] sz) (zp_D_init h0  u)) (va_A [(h0, .inr (1, [.int 0, .int 0, .int 0, .int 0, .int 0, .int 0, .int 0, .int 0, .int 0, .int 0, .null]))] sz)) 1 16 (va_A [(h0, .inr (1, [.int 0, .int 0, .int 0, .int 0, .int 0, .int 0, .int 0, .int 0, .int 0, .int 0, .null]))] sz) := by
  refine Met.ofW (cc := b_D_init) (maxL := 1) (ret := none) (by decide +kernel) rfl ?_
  intro p e s m args below meth c s₁ B hml hv
  obtain ⟨rfl, hsz, hP, hK, hD0, hN⟩ := hv
  have hx := B.exec
  have hb := B.bytes
  have hr := B.returns
  have hts := atoms_spec (ws := Cond.code y_D_init b_D_init 1 none :: zw_w) B.pre
  have ht : ∀ w ∈ zw_w, w.before _ s = true := fun w hw => hts w (List.mem_cons_of_mem _ hw)
  have hown : s.vm.findClass "FrameMachine$Devices" = some m.cls := findClass_of_methodNamed B.named
  have hlocks := B.notSynchronized
  have hin : meth.name = "<init>" := (name_of_methodNamed B.named B.method).1
  subst hsz
  have hD := hD0.self (sz := s.heap.size)
  generalize hAe : va_A [(h0, .inr (1, [.int 0, .int 0, .int 0, .int 0, .int 0, .int 0, .int 0, .int 0, .int 0, .int 0, .null]))] s.heap.size = A at hD ⊢
  have hA : ∀ q : Nat, s.heap.size ≤ q → A q := fun q h => by rw [← hAe]; exact Or.inr h
  have hS : va_S A s.heap s.heap [] := va_S.rf
  have hl := lv_entry ([.ref h0]) (n := 1) (Nat.le_of_ble_eq_true rfl)
  rw [lg_entry_eq]
  generalize (lg_sl ([.ref h0]) ++ List.replicate (1 - (lg_sl ([.ref h0])).length) Slot.unset).toArray = ls at hl ⊢
  have hl : lv_has ls 1 [(0, .ref h0)] := hl
  refine lv_aload_n hx hb kd_D_init_0 rfl (lv_at hl 0 rfl) ?_
  refine W.objInit hx hb hown (ht _ (zw_in kw_29 rfl)) (ht _ (zw_in kw_22 rfl)) (ht _ (zw_in kw_23 rfl)) rfl (by rw [hml]; exact hl.1) rfl kd_D_init_1 (Nat.le_of_ble_eq_true rfl) (Nat.le_of_ble_eq_true rfl) ?_
  refine W.eq (g2 := F0 m 4 ls []) rfl ?_
  refine lv_aload_n hx hb kd_D_init_4 rfl (lv_at hl 0 rfl) ?_
  refine lv_sipush (v := 256) hx hb kd_D_init_5 ks_256 ?_
  refine va_put (D := D) (ci := 1) (v := .int 256) (ty := .int) (C := "FrameMachine$Devices") (T := zT_D) (N := 11) hx hb ht zi_D zt_D zto_D zn_D hown hK hP hD hS 0 rfl rfl 0 (by decide) (ht _ (zw_in kw_30 rfl)) (fun _ h9 => h9) rfl (by decide +kernel) rfl rfl (Nat.le_of_ble_eq_true rfl) kd_D_init_8 (fun H locs hP hD hS => ?_)
  have hP : va_P D zq_cl [(h0, .inr (1, [.int 256, .int 0, .int 0, .int 0, .int 0, .int 0, .int 0, .int 0, .int 0, .int 0, .null]))] H := hP
  have hD : va_D A [(h0, .inr (1, [.int 256, .int 0, .int 0, .int 0, .int 0, .int 0, .int 0, .int 0, .int 0, .int 0, .null]))] := hD
  refine lv_aload_n hx hb kd_D_init_11 rfl (lv_at hl 0 rfl) ?_
  refine lv_sipush (v := 256) hx hb kd_D_init_12 ks_256 ?_
  refine va_put (D := D) (ci := 1) (v := .int 256) (ty := .int) (C := "FrameMachine$Devices") (T := zT_D) (N := 11) hx hb ht zi_D zt_D zto_D zn_D hown hK hP hD hS 0 rfl rfl 1 (by decide) (ht _ (zw_in kw_31 rfl)) (fun _ h9 => h9) rfl (by decide +kernel) rfl rfl (Nat.le_of_ble_eq_true rfl) kd_D_init_15 (fun H locs hP hD hS => ?_)
  have hP : va_P D zq_cl [(h0, .inr (1, [.int 256, .int 256, .int 0, .int 0, .int 0, .int 0, .int 0, .int 0, .int 0, .int 0, .null]))] H := hP
  have hD : va_D A [(h0, .inr (1, [.int 256, .int 256, .int 0, .int 0, .int 0, .int 0, .int 0, .int 0, .int 0, .int 0, .null]))] := hD
  refine lv_aload_n hx hb kd_D_init_18 rfl (lv_at hl 0 rfl) ?_
  refine lv_bipush (v := 16) hx hb kd_D_init_19 kb_16 ?_
  refine va_newa (atype := .int) (ty := .int) (a0 := (16, .inl (fun _ => 0))) hx hb (ht _ (zw_in kw_66 rfl)) rfl hK hP hD hS hA (fun cA => rfl) (by decide) (by decide) (by decide) (Nat.le_of_ble_eq_true rfl) (Nat.le_of_ble_eq_true rfl) kd_D_init_21 (fun q21 c21 H hK hP hD hS => ?_)
  have hK : va_K D zq_cl [(c21, .int)] s := hK
  have hP : va_P D zq_cl [(h0, .inr (1, [.int 256, .int 256, .int 0, .int 0, .int 0, .int 0, .int 0, .int 0, .int 0, .int 0, .null])), (q21, .inl (c21, 16, .inl (fun _ => 0)))] H := hP
  have hD : va_D A [(h0, .inr (1, [.int 256, .int 256, .int 0, .int 0, .int 0, .int 0, .int 0, .int 0, .int 0, .int 0, .null])), (q21, .inl (c21, 16, .inl (fun _ => 0)))] := hD
  refine W.widen (k := 1) (n := 16) (by omega) (by omega) ?_
  refine va_putF (D := D) (ci := 1) (v := .ref q21) (ty := (.array .int)) (C := "FrameMachine$Devices") (T := zT_D) (N := 11) hx hb ht zi_D zt_D zto_D zn_D hown hK hP hD hS 0 rfl rfl 10 (by decide) (ht _ (zw_in kw_42 rfl)) (fun _ h9 => h9) rfl hin rfl (by decide +kernel) rfl rfl (Nat.le_of_ble_eq_true rfl) kd_D_init_23 (fun H locs hP hD hS => ?_)
  have hP : va_P D zq_cl [(h0, .inr (1, [.int 256, .int 256, .int 0, .int 0, .int 0, .int 0, .int 0, .int 0, .int 0, .int 0, .ref q21])), (q21, .inl (c21, 16, .inl (fun _ => 0)))] H := hP
  have hD : va_D A [(h0, .inr (1, [.int 256, .int 256, .int 0, .int 0, .int 0, .int 0, .int 0, .int 0, .int 0, .int 0, .ref q21])), (q21, .inl (c21, 16, .inl (fun _ => 0)))] := hD
  exact W.vret hx hb hr (fun t ht2 hW => ⟨⟨(q21, c21), rfl, trivial, (by show va_P _ _ _ t.heap; rw [ht2]; exact hP), va_K.moved hW.alike hK, hD⟩, hS.F ht2⟩) hS.2.2 kd_D_init_26 (hlocks := hlocks)
abbrev b_B_init : ByteArray := prog_3_method_1_code
def y_B_init : MethodName := ⟨"FrameMachine$Bus", "<init>", "(LFrameMachine$Devices;)V"⟩
theorem kd_B_init_0 : decode b_B_init 0 = .ok (.aload_n 0, 1) := by decide +kernel
theorem kd_B_init_1 : decode b_B_init 1 = .ok (.invokespecial 3, 3) := by decide +kernel
theorem kd_B_init_4 : decode b_B_init 4 = .ok (.aload_n 0, 1) := by decide +kernel
theorem kd_B_init_5 : decode b_B_init 5 = .ok (.sipush 1024, 3) := by decide +kernel
theorem kd_B_init_8 : decode b_B_init 8 = .ok (.newarray .byte, 2) := by decide +kernel
theorem kd_B_init_10 : decode b_B_init 10 = .ok (.putfield 9, 3) := by decide +kernel
theorem kd_B_init_13 : decode b_B_init 13 = .ok (.aload_n 0, 1) := by decide +kernel
theorem kd_B_init_14 : decode b_B_init 14 = .ok (.aload_n 1, 1) := by decide +kernel
theorem kd_B_init_15 : decode b_B_init 15 = .ok (.putfield 15, 3) := by decide +kernel
theorem kd_B_init_18 : decode b_B_init 18 = .ok (.return_, 1) := by decide +kernel
theorem kw_72 : (Jvm.Cond.methodLink "FrameMachine$Bus" (3 : Nat) ({ cls := "java/lang/Object", name := "<init>", desc := "()V" } : Jvm.MethodName)) ∈ lw_tbl := zk_1 (List.mem_of_getElem? (i := 72) rfl)
theorem kw_95 : (Jvm.Cond.arrayClass Jvm.ClassFile.FieldType.byte) ∈ lw_tbl := zk_1 (List.mem_of_getElem? (i := 95) rfl)
def zp_B_init (h0 : Nat) (a1 : Nat) (u : Nat × Nat) : va_W := [(h0, .inr (2, [.ref u.1, .ref a1, .int 0, .int 0, .int 0])), (u.1, .inl (u.2, 1024, .inl (fun _ => 0)))]
def zq_B_init (u : Nat × Nat) : List (ClassId × FieldType) := [(u.2, .byte)]
theorem c_B_init (l : Launch) (D : va_G) (h0 : Nat) (a1 : Nat) (sz : Nat) : Met l y_B_init (Cond.code y_B_init b_B_init 2 none :: zw_w) ({ frames := 1, cells := 1, slots := 1024, locals := 12 }) (va_Pc [.ref h0, .ref a1] (fun U => U.heap.size = sz ∧ va_P D zq_cl [(h0, .inr (2, [.null, .null, .int 0, .int 0, .int 0]))] U.heap ∧ va_K D zq_cl [] U ∧ va_D (fun _ => True) [(h0, .inr (2, [.null, .null, .int 0, .int 0, .int 0]))] ∧ zw_N U)) (va_Qv (fun _ : Nat × Nat => True) (fun u t => va_P D zq_cl (zp_B_init h0 a1 u) t.heap ∧ va_K D zq_cl (zq_B_init u) t ∧ va_D (va_A [(h0, .inr (2, [.null, .null, .int 0, .int 0, .int 0]))] sz) (zp_B_init h0 a1 u)) (va_A [(h0, .inr (2, [.null, .null, .int 0, .int 0, .int 0]))] sz)) 1 1024 (va_A [(h0, .inr (2, [.null, .null, .int 0, .int 0, .int 0]))] sz) := by
  refine Met.ofW (cc := b_B_init) (maxL := 2) (ret := none) (by decide +kernel) rfl ?_
  intro p e s m args below meth c s₁ B hml hv
  obtain ⟨rfl, hsz, hP, hK, hD0, hN⟩ := hv
  have hx := B.exec
  have hb := B.bytes
  have hr := B.returns
  have hts := atoms_spec (ws := Cond.code y_B_init b_B_init 2 none :: zw_w) B.pre
  have ht : ∀ w ∈ zw_w, w.before _ s = true := fun w hw => hts w (List.mem_cons_of_mem _ hw)
  have hown : s.vm.findClass "FrameMachine$Bus" = some m.cls := findClass_of_methodNamed B.named
  have hlocks := B.notSynchronized
  have hin : meth.name = "<init>" := (name_of_methodNamed B.named B.method).1
  subst hsz
  have hD := hD0.self (sz := s.heap.size)
  generalize hAe : va_A [(h0, .inr (2, [.null, .null, .int 0, .int 0, .int 0]))] s.heap.size = A at hD ⊢
  have hA : ∀ q : Nat, s.heap.size ≤ q → A q := fun q h => by rw [← hAe]; exact Or.inr h
  have hS : va_S A s.heap s.heap [] := va_S.rf
  have hl := lv_entry ([.ref h0, .ref a1]) (n := 2) (Nat.le_of_ble_eq_true rfl)
  rw [lg_entry_eq]
  generalize (lg_sl ([.ref h0, .ref a1]) ++ List.replicate (2 - (lg_sl ([.ref h0, .ref a1])).length) Slot.unset).toArray = ls at hl ⊢
  have hl : lv_has ls 2 [(0, .ref h0), (1, .ref a1)] := hl
  refine lv_aload_n hx hb kd_B_init_0 rfl (lv_at hl 0 rfl) ?_
  refine W.objInit hx hb hown (ht _ (zw_in kw_72 rfl)) (ht _ (zw_in kw_22 rfl)) (ht _ (zw_in kw_23 rfl)) rfl (by rw [hml]; exact hl.1) rfl kd_B_init_1 (Nat.le_of_ble_eq_true rfl) (Nat.le_of_ble_eq_true rfl) ?_
  refine W.eq (g2 := F0 m 4 ls []) rfl ?_
  refine lv_aload_n hx hb kd_B_init_4 rfl (lv_at hl 0 rfl) ?_
  refine lv_sipush (v := 1024) hx hb kd_B_init_5 ks_1024 ?_
  refine va_newa (atype := .byte) (ty := .byte) (a0 := (1024, .inl (fun _ => 0))) hx hb (ht _ (zw_in kw_95 rfl)) rfl hK hP hD hS hA (fun cA => rfl) (by decide) (by decide) (by decide) (Nat.le_of_ble_eq_true rfl) (Nat.le_of_ble_eq_true rfl) kd_B_init_8 (fun q8 c8 H hK hP hD hS => ?_)
  have hK : va_K D zq_cl [(c8, .byte)] s := hK
  have hP : va_P D zq_cl [(h0, .inr (2, [.null, .null, .int 0, .int 0, .int 0])), (q8, .inl (c8, 1024, .inl (fun _ => 0)))] H := hP
  have hD : va_D A [(h0, .inr (2, [.null, .null, .int 0, .int 0, .int 0])), (q8, .inl (c8, 1024, .inl (fun _ => 0)))] := hD
  refine W.widen (k := 1) (n := 1024) (by omega) (by omega) ?_
  refine va_putF (D := D) (ci := 2) (v := .ref q8) (ty := (.array .byte)) (C := "FrameMachine$Bus") (T := zT_B) (N := 5) hx hb ht zi_B zt_B zto_B zn_B hown hK hP hD hS 0 rfl rfl 0 (by decide) (ht _ (zw_in kw_73 rfl)) (fun _ h9 => h9) rfl hin rfl (by decide +kernel) rfl rfl (Nat.le_of_ble_eq_true rfl) kd_B_init_10 (fun H locs hP hD hS => ?_)
  have hP : va_P D zq_cl [(h0, .inr (2, [.ref q8, .null, .int 0, .int 0, .int 0])), (q8, .inl (c8, 1024, .inl (fun _ => 0)))] H := hP
  have hD : va_D A [(h0, .inr (2, [.ref q8, .null, .int 0, .int 0, .int 0])), (q8, .inl (c8, 1024, .inl (fun _ => 0)))] := hD
  refine lv_aload_n hx hb kd_B_init_13 rfl (lv_at hl 0 rfl) ?_
  refine lv_aload_n hx hb kd_B_init_14 rfl (lv_at hl 1 rfl) ?_
  refine va_putF (D := D) (ci := 2) (v := .ref a1) (ty := (.object "FrameMachine$Devices")) (C := "FrameMachine$Bus") (T := zT_B) (N := 5) hx hb ht zi_B zt_B zto_B zn_B hown hK hP hD hS 0 rfl rfl 1 (by decide) (ht _ (zw_in kw_74 rfl)) (fun _ h9 => h9) rfl hin rfl (by decide +kernel) rfl rfl (Nat.le_of_ble_eq_true rfl) kd_B_init_15 (fun H locs hP hD hS => ?_)
  have hP : va_P D zq_cl [(h0, .inr (2, [.ref q8, .ref a1, .int 0, .int 0, .int 0])), (q8, .inl (c8, 1024, .inl (fun _ => 0)))] H := hP
  have hD : va_D A [(h0, .inr (2, [.ref q8, .ref a1, .int 0, .int 0, .int 0])), (q8, .inl (c8, 1024, .inl (fun _ => 0)))] := hD
  exact W.vret hx hb hr (fun t ht2 hW => ⟨⟨(q8, c8), rfl, trivial, (by show va_P _ _ _ t.heap; rw [ht2]; exact hP), va_K.moved hW.alike hK, hD⟩, hS.F ht2⟩) hS.2.2 kd_B_init_18 (hlocks := hlocks)
abbrev b_G_init : ByteArray := prog_10_method_1_code
def y_G_init : MethodName := ⟨"FrameMachine$Registers", "<init>", "()V"⟩
theorem kd_G_init_0 : decode b_G_init 0 = .ok (.aload_n 0, 1) := by decide +kernel
theorem kd_G_init_1 : decode b_G_init 1 = .ok (.invokespecial 3, 3) := by decide +kernel
theorem kd_G_init_4 : decode b_G_init 4 = .ok (.aload_n 0, 1) := by decide +kernel
theorem kd_G_init_5 : decode b_G_init 5 = .ok (.bipush 8, 2) := by decide +kernel
theorem kd_G_init_7 : decode b_G_init 7 = .ok (.newarray .int, 2) := by decide +kernel
theorem kd_G_init_9 : decode b_G_init 9 = .ok (.putfield 9, 3) := by decide +kernel
theorem kd_G_init_12 : decode b_G_init 12 = .ok (.aload_n 0, 1) := by decide +kernel
theorem kd_G_init_13 : decode b_G_init 13 = .ok (.bipush 8, 2) := by decide +kernel
theorem kd_G_init_15 : decode b_G_init 15 = .ok (.newarray .int, 2) := by decide +kernel
theorem kd_G_init_17 : decode b_G_init 17 = .ok (.putfield 15, 3) := by decide +kernel
theorem kd_G_init_20 : decode b_G_init 20 = .ok (.aload_n 0, 1) := by decide +kernel
theorem kd_G_init_21 : decode b_G_init 21 = .ok (.sipush 9984, 3) := by decide +kernel
theorem kd_G_init_24 : decode b_G_init 24 = .ok (.putfield 18, 3) := by decide +kernel
theorem kd_G_init_27 : decode b_G_init 27 = .ok (.return_, 1) := by decide +kernel
theorem kw_101 : (Jvm.Cond.methodLink "FrameMachine$Registers" (3 : Nat) ({ cls := "java/lang/Object", name := "<init>", desc := "()V" } : Jvm.MethodName)) ∈ lw_tbl := zk_1 (List.mem_of_getElem? (i := 101) rfl)
theorem ks_9984 : (Int16.ofInt 9984).toInt32 = 9984 := by decide
def zp_G_init (h0 : Nat)  (u : Nat × Nat × Nat × Nat) : va_W := [(h0, .inr (3, [.ref u.1, .ref u.2.2.1, .int 0, .int 0, .int 9984])), (u.1, .inl (u.2.1, 8, .inl (fun _ => 0))), (u.2.2.1, .inl (u.2.2.2, 8, .inl (fun _ => 0)))]
def zq_G_init (u : Nat × Nat × Nat × Nat) : List (ClassId × FieldType) := [(u.2.1, .int), (u.2.2.2, .int)]
theorem c_G_init (l : Launch) (D : va_G) (h0 : Nat)  (sz : Nat) : Met l y_G_init (Cond.code y_G_init b_G_init 1 none :: zw_w) ({ frames := 1, cells := 2, slots := 16, locals := 12 }) (va_Pc [.ref h0] (fun U => U.heap.size = sz ∧ va_P D zq_cl [(h0, .inr (3, [.null, .null, .int 0, .int 0, .int 0]))] U.heap ∧ va_K D zq_cl [] U ∧ va_D (fun _ => True) [(h0, .inr (3, [.null, .null, .int 0, .int 0, .int 0]))] ∧ zw_N U)) (va_Qv (fun _ : Nat × Nat × Nat × Nat => True) (fun u t => va_P D zq_cl (zp_G_init h0  u) t.heap ∧ va_K D zq_cl (zq_G_init u) t ∧ va_D (va_A [(h0, .inr (3, [.null, .null, .int 0, .int 0, .int 0]))] sz) (zp_G_init h0  u)) (va_A [(h0, .inr (3, [.null, .null, .int 0, .int 0, .int 0]))] sz)) 2 16 (va_A [(h0, .inr (3, [.null, .null, .int 0, .int 0, .int 0]))] sz) := by
  refine Met.ofW (cc := b_G_init) (maxL := 1) (ret := none) (by decide +kernel) rfl ?_
  intro p e s m args below meth c s₁ B hml hv
  obtain ⟨rfl, hsz, hP, hK, hD0, hN⟩ := hv
  have hx := B.exec
  have hb := B.bytes
  have hr := B.returns
  have hts := atoms_spec (ws := Cond.code y_G_init b_G_init 1 none :: zw_w) B.pre
  have ht : ∀ w ∈ zw_w, w.before _ s = true := fun w hw => hts w (List.mem_cons_of_mem _ hw)
  have hown : s.vm.findClass "FrameMachine$Registers" = some m.cls := findClass_of_methodNamed B.named
  have hlocks := B.notSynchronized
  have hin : meth.name = "<init>" := (name_of_methodNamed B.named B.method).1
  subst hsz
  have hD := hD0.self (sz := s.heap.size)
  generalize hAe : va_A [(h0, .inr (3, [.null, .null, .int 0, .int 0, .int 0]))] s.heap.size = A at hD ⊢
  have hA : ∀ q : Nat, s.heap.size ≤ q → A q := fun q h => by rw [← hAe]; exact Or.inr h
  have hS : va_S A s.heap s.heap [] := va_S.rf
  have hl := lv_entry ([.ref h0]) (n := 1) (Nat.le_of_ble_eq_true rfl)
  rw [lg_entry_eq]
  generalize (lg_sl ([.ref h0]) ++ List.replicate (1 - (lg_sl ([.ref h0])).length) Slot.unset).toArray = ls at hl ⊢
  have hl : lv_has ls 1 [(0, .ref h0)] := hl
  refine lv_aload_n hx hb kd_G_init_0 rfl (lv_at hl 0 rfl) ?_
  refine W.objInit hx hb hown (ht _ (zw_in kw_101 rfl)) (ht _ (zw_in kw_22 rfl)) (ht _ (zw_in kw_23 rfl)) rfl (by rw [hml]; exact hl.1) rfl kd_G_init_1 (Nat.le_of_ble_eq_true rfl) (Nat.le_of_ble_eq_true rfl) ?_
  refine W.eq (g2 := F0 m 4 ls []) rfl ?_
  refine lv_aload_n hx hb kd_G_init_4 rfl (lv_at hl 0 rfl) ?_
  refine lv_bipush (v := 8) hx hb kd_G_init_5 kb_8 ?_
  refine va_newa (atype := .int) (ty := .int) (a0 := (8, .inl (fun _ => 0))) hx hb (ht _ (zw_in kw_66 rfl)) rfl hK hP hD hS hA (fun cA => rfl) (by decide) (by decide) (by decide) (Nat.le_of_ble_eq_true rfl) (Nat.le_of_ble_eq_true rfl) kd_G_init_7 (fun q7 c7 H hK hP hD hS => ?_)
  have hK : va_K D zq_cl [(c7, .int)] s := hK
  have hP : va_P D zq_cl [(h0, .inr (3, [.null, .null, .int 0, .int 0, .int 0])), (q7, .inl (c7, 8, .inl (fun _ => 0)))] H := hP
  have hD : va_D A [(h0, .inr (3, [.null, .null, .int 0, .int 0, .int 0])), (q7, .inl (c7, 8, .inl (fun _ => 0)))] := hD
  refine W.widen (k := 1) (n := 8) (by omega) (by omega) ?_
  refine va_putF (D := D) (ci := 3) (v := .ref q7) (ty := (.array .int)) (C := "FrameMachine$Registers") (T := zT_G) (N := 5) hx hb ht zi_G zt_G zto_G zn_G hown hK hP hD hS 0 rfl rfl 0 (by decide) (ht _ (zw_in kw_102 rfl)) (fun _ h9 => h9) rfl hin rfl (by decide +kernel) rfl rfl (Nat.le_of_ble_eq_true rfl) kd_G_init_9 (fun H locs hP hD hS => ?_)
  have hP : va_P D zq_cl [(h0, .inr (3, [.ref q7, .null, .int 0, .int 0, .int 0])), (q7, .inl (c7, 8, .inl (fun _ => 0)))] H := hP
  have hD : va_D A [(h0, .inr (3, [.ref q7, .null, .int 0, .int 0, .int 0])), (q7, .inl (c7, 8, .inl (fun _ => 0)))] := hD
  refine lv_aload_n hx hb kd_G_init_12 rfl (lv_at hl 0 rfl) ?_
  refine lv_bipush (v := 8) hx hb kd_G_init_13 kb_8 ?_
  refine va_newa (atype := .int) (ty := .int) (a0 := (8, .inl (fun _ => 0))) hx hb (ht _ (zw_in kw_66 rfl)) rfl hK hP hD hS hA (fun cA => rfl) (by decide) (by decide) (by decide) (Nat.le_of_ble_eq_true rfl) (Nat.le_of_ble_eq_true rfl) kd_G_init_15 (fun q15 c15 H hK hP hD hS => ?_)
  have hK : va_K D zq_cl [(c7, .int), (c15, .int)] s := hK
  have hP : va_P D zq_cl [(h0, .inr (3, [.ref q7, .null, .int 0, .int 0, .int 0])), (q7, .inl (c7, 8, .inl (fun _ => 0))), (q15, .inl (c15, 8, .inl (fun _ => 0)))] H := hP
  have hD : va_D A [(h0, .inr (3, [.ref q7, .null, .int 0, .int 0, .int 0])), (q7, .inl (c7, 8, .inl (fun _ => 0))), (q15, .inl (c15, 8, .inl (fun _ => 0)))] := hD
  refine W.widen (k := 2) (n := 16) (by omega) (by omega) ?_
  refine va_putF (D := D) (ci := 3) (v := .ref q15) (ty := (.array .int)) (C := "FrameMachine$Registers") (T := zT_G) (N := 5) hx hb ht zi_G zt_G zto_G zn_G hown hK hP hD hS 0 rfl rfl 1 (by decide) (ht _ (zw_in kw_105 rfl)) (fun _ h9 => h9) rfl hin rfl (by decide +kernel) rfl rfl (Nat.le_of_ble_eq_true rfl) kd_G_init_17 (fun H locs hP hD hS => ?_)
  have hP : va_P D zq_cl [(h0, .inr (3, [.ref q7, .ref q15, .int 0, .int 0, .int 0])), (q7, .inl (c7, 8, .inl (fun _ => 0))), (q15, .inl (c15, 8, .inl (fun _ => 0)))] H := hP
  have hD : va_D A [(h0, .inr (3, [.ref q7, .ref q15, .int 0, .int 0, .int 0])), (q7, .inl (c7, 8, .inl (fun _ => 0))), (q15, .inl (c15, 8, .inl (fun _ => 0)))] := hD
  refine lv_aload_n hx hb kd_G_init_20 rfl (lv_at hl 0 rfl) ?_
  refine lv_sipush (v := 9984) hx hb kd_G_init_21 ks_9984 ?_
  refine va_put (D := D) (ci := 3) (v := .int 9984) (ty := .int) (C := "FrameMachine$Registers") (T := zT_G) (N := 5) hx hb ht zi_G zt_G zto_G zn_G hown hK hP hD hS 0 rfl rfl 4 (by decide) (ht _ (zw_in kw_118 rfl)) (fun _ h9 => h9) rfl (by decide +kernel) rfl rfl (Nat.le_of_ble_eq_true rfl) kd_G_init_24 (fun H locs hP hD hS => ?_)
  have hP : va_P D zq_cl [(h0, .inr (3, [.ref q7, .ref q15, .int 0, .int 0, .int 9984])), (q7, .inl (c7, 8, .inl (fun _ => 0))), (q15, .inl (c15, 8, .inl (fun _ => 0)))] H := hP
  have hD : va_D A [(h0, .inr (3, [.ref q7, .ref q15, .int 0, .int 0, .int 9984])), (q7, .inl (c7, 8, .inl (fun _ => 0))), (q15, .inl (c15, 8, .inl (fun _ => 0)))] := hD
  exact W.vret hx hb hr (fun t ht2 hW => ⟨⟨(q7, c7, q15, c15), rfl, trivial, (by show va_P _ _ _ t.heap; rw [ht2]; exact hP), va_K.moved hW.alike hK, hD⟩, hS.F ht2⟩) hS.2.2 kd_G_init_27 (hlocks := hlocks)
abbrev b_Q_init : ByteArray := prog_8_method_1_code
def y_Q_init : MethodName := ⟨"FrameMachine$Pointers", "<init>", "(LFrameMachine$Bus;LFrameMachine$Registers;)V"⟩
theorem kd_Q_init_0 : decode b_Q_init 0 = .ok (.aload_n 0, 1) := by decide +kernel
theorem kd_Q_init_1 : decode b_Q_init 1 = .ok (.invokespecial 3, 3) := by decide +kernel
theorem kd_Q_init_4 : decode b_Q_init 4 = .ok (.aload_n 0, 1) := by decide +kernel
theorem kd_Q_init_5 : decode b_Q_init 5 = .ok (.aload_n 1, 1) := by decide +kernel
theorem kd_Q_init_6 : decode b_Q_init 6 = .ok (.putfield 9, 3) := by decide +kernel
theorem kd_Q_init_9 : decode b_Q_init 9 = .ok (.aload_n 0, 1) := by decide +kernel
theorem kd_Q_init_10 : decode b_Q_init 10 = .ok (.aload_n 2, 1) := by decide +kernel
theorem kd_Q_init_11 : decode b_Q_init 11 = .ok (.putfield 15, 3) := by decide +kernel
theorem kd_Q_init_14 : decode b_Q_init 14 = .ok (.return_, 1) := by decide +kernel
theorem kw_138 : (Jvm.Cond.methodLink "FrameMachine$Pointers" (3 : Nat) ({ cls := "java/lang/Object", name := "<init>", desc := "()V" } : Jvm.MethodName)) ∈ lw_tbl := zk_1 (List.mem_of_getElem? (i := 138) rfl)
def zp_Q_init (h0 : Nat) (a1 : Nat) (a2 : Nat) (u : Unit) : va_W := [(h0, .inr (4, [.ref a1, .ref a2]))]
def zq_Q_init (u : Unit) : List (ClassId × FieldType) := []
theorem c_Q_init (l : Launch) (D : va_G) (h0 : Nat) (a1 : Nat) (a2 : Nat) (sz : Nat) : Met l y_Q_init (Cond.code y_Q_init b_Q_init 3 none :: zw_w) ({ frames := 1, cells := 0, slots := 0, locals := 12 }) (va_Pc [.ref h0, .ref a1, .ref a2] (fun U => U.heap.size = sz ∧ va_P D zq_cl [(h0, .inr (4, [.null, .null]))] U.heap ∧ va_K D zq_cl [] U ∧ va_D (fun _ => True) [(h0, .inr (4, [.null, .null]))] ∧ zw_N U)) (va_Qv (fun _ : Unit => True) (fun u t => va_P D zq_cl (zp_Q_init h0 a1 a2 u) t.heap ∧ va_K D zq_cl (zq_Q_init u) t ∧ va_D (va_A [(h0, .inr (4, [.null, .null]))] sz) (zp_Q_init h0 a1 a2 u)) (va_A [(h0, .inr (4, [.null, .null]))] sz)) 0 0 (va_A [(h0, .inr (4, [.null, .null]))] sz) := by
  refine Met.ofW (cc := b_Q_init) (maxL := 3) (ret := none) (by decide +kernel) rfl ?_
  intro p e s m args below meth c s₁ B hml hv
  obtain ⟨rfl, hsz, hP, hK, hD0, hN⟩ := hv
  have hx := B.exec
  have hb := B.bytes
  have hr := B.returns
  have hts := atoms_spec (ws := Cond.code y_Q_init b_Q_init 3 none :: zw_w) B.pre
  have ht : ∀ w ∈ zw_w, w.before _ s = true := fun w hw => hts w (List.mem_cons_of_mem _ hw)
  have hown : s.vm.findClass "FrameMachine$Pointers" = some m.cls := findClass_of_methodNamed B.named
  have hlocks := B.notSynchronized
  have hin : meth.name = "<init>" := (name_of_methodNamed B.named B.method).1
  subst hsz
  have hD := hD0.self (sz := s.heap.size)
  generalize hAe : va_A [(h0, .inr (4, [.null, .null]))] s.heap.size = A at hD ⊢
  have hA : ∀ q : Nat, s.heap.size ≤ q → A q := fun q h => by rw [← hAe]; exact Or.inr h
  have hS : va_S A s.heap s.heap [] := va_S.rf
  have hl := lv_entry ([.ref h0, .ref a1, .ref a2]) (n := 3) (Nat.le_of_ble_eq_true rfl)
  rw [lg_entry_eq]
  generalize (lg_sl ([.ref h0, .ref a1, .ref a2]) ++ List.replicate (3 - (lg_sl ([.ref h0, .ref a1, .ref a2])).length) Slot.unset).toArray = ls at hl ⊢
  have hl : lv_has ls 3 [(0, .ref h0), (1, .ref a1), (2, .ref a2)] := hl
  refine lv_aload_n hx hb kd_Q_init_0 rfl (lv_at hl 0 rfl) ?_
  refine W.objInit hx hb hown (ht _ (zw_in kw_138 rfl)) (ht _ (zw_in kw_22 rfl)) (ht _ (zw_in kw_23 rfl)) rfl (by rw [hml]; exact hl.1) rfl kd_Q_init_1 (Nat.le_of_ble_eq_true rfl) (Nat.le_of_ble_eq_true rfl) ?_
  refine W.eq (g2 := F0 m 4 ls []) rfl ?_
  refine lv_aload_n hx hb kd_Q_init_4 rfl (lv_at hl 0 rfl) ?_
  refine lv_aload_n hx hb kd_Q_init_5 rfl (lv_at hl 1 rfl) ?_
  refine va_putF (D := D) (ci := 4) (v := .ref a1) (ty := (.object "FrameMachine$Bus")) (C := "FrameMachine$Pointers") (T := zT_Q) (N := 2) hx hb ht zi_Q zt_Q zto_Q zn_Q hown hK hP hD hS 0 rfl rfl 0 (by decide) (ht _ (zw_in kw_139 rfl)) (fun _ h9 => h9) rfl hin rfl (by decide +kernel) rfl rfl (Nat.le_of_ble_eq_true rfl) kd_Q_init_6 (fun H locs hP hD hS => ?_)
  have hP : va_P D zq_cl [(h0, .inr (4, [.ref a1, .null]))] H := hP
  have hD : va_D A [(h0, .inr (4, [.ref a1, .null]))] := hD
  refine lv_aload_n hx hb kd_Q_init_9 rfl (lv_at hl 0 rfl) ?_
  refine lv_aload_n hx hb kd_Q_init_10 rfl (lv_at hl 2 rfl) ?_
  refine va_putF (D := D) (ci := 4) (v := .ref a2) (ty := (.object "FrameMachine$Registers")) (C := "FrameMachine$Pointers") (T := zT_Q) (N := 2) hx hb ht zi_Q zt_Q zto_Q zn_Q hown hK hP hD hS 0 rfl rfl 1 (by decide) (ht _ (zw_in kw_140 rfl)) (fun _ h9 => h9) rfl hin rfl (by decide +kernel) rfl rfl (Nat.le_of_ble_eq_true rfl) kd_Q_init_11 (fun H locs hP hD hS => ?_)
  have hP : va_P D zq_cl [(h0, .inr (4, [.ref a1, .ref a2]))] H := hP
  have hD : va_D A [(h0, .inr (4, [.ref a1, .ref a2]))] := hD
  exact W.vret hx hb hr (fun t ht2 hW => ⟨⟨(), rfl, trivial, (by show va_P _ _ _ t.heap; rw [ht2]; exact hP), va_K.moved hW.alike hK, hD⟩, hS.F ht2⟩) hS.2.2 kd_Q_init_14 (hlocks := hlocks)
abbrev b_E_init : ByteArray := prog_5_method_1_code
def y_E_init : MethodName := ⟨"FrameMachine$Exceptions", "<init>", "(LFrameMachine$Bus;LFrameMachine$Registers;LFrameMachine$Pointers;)V"⟩
theorem kd_E_init_0 : decode b_E_init 0 = .ok (.aload_n 0, 1) := by decide +kernel
theorem kd_E_init_1 : decode b_E_init 1 = .ok (.invokespecial 3, 3) := by decide +kernel
theorem kd_E_init_4 : decode b_E_init 4 = .ok (.aload_n 0, 1) := by decide +kernel
theorem kd_E_init_5 : decode b_E_init 5 = .ok (.aload_n 1, 1) := by decide +kernel
theorem kd_E_init_6 : decode b_E_init 6 = .ok (.putfield 9, 3) := by decide +kernel
theorem kd_E_init_9 : decode b_E_init 9 = .ok (.aload_n 0, 1) := by decide +kernel
theorem kd_E_init_10 : decode b_E_init 10 = .ok (.aload_n 2, 1) := by decide +kernel
theorem kd_E_init_11 : decode b_E_init 11 = .ok (.putfield 15, 3) := by decide +kernel
theorem kd_E_init_14 : decode b_E_init 14 = .ok (.aload_n 0, 1) := by decide +kernel
theorem kd_E_init_15 : decode b_E_init 15 = .ok (.aload_n 3, 1) := by decide +kernel
theorem kd_E_init_16 : decode b_E_init 16 = .ok (.putfield 19, 3) := by decide +kernel
theorem kd_E_init_19 : decode b_E_init 19 = .ok (.return_, 1) := by decide +kernel
theorem kw_151 : (Jvm.Cond.methodLink "FrameMachine$Exceptions" (3 : Nat) ({ cls := "java/lang/Object", name := "<init>", desc := "()V" } : Jvm.MethodName)) ∈ lw_tbl := zk_1 (List.mem_of_getElem? (i := 151) rfl)
def zp_E_init (h0 : Nat) (a1 : Nat) (a2 : Nat) (a3 : Nat) (u : Unit) : va_W := [(h0, .inr (5, [.ref a1, .ref a2, .ref a3, .int 0, .int 0, .int 0]))]
def zq_E_init (u : Unit) : List (ClassId × FieldType) := []
theorem c_E_init (l : Launch) (D : va_G) (h0 : Nat) (a1 : Nat) (a2 : Nat) (a3 : Nat) (sz : Nat) : Met l y_E_init (Cond.code y_E_init b_E_init 4 none :: zw_w) ({ frames := 1, cells := 0, slots := 0, locals := 12 }) (va_Pc [.ref h0, .ref a1, .ref a2, .ref a3] (fun U => U.heap.size = sz ∧ va_P D zq_cl [(h0, .inr (5, [.null, .null, .null, .int 0, .int 0, .int 0]))] U.heap ∧ va_K D zq_cl [] U ∧ va_D (fun _ => True) [(h0, .inr (5, [.null, .null, .null, .int 0, .int 0, .int 0]))] ∧ zw_N U)) (va_Qv (fun _ : Unit => True) (fun u t => va_P D zq_cl (zp_E_init h0 a1 a2 a3 u) t.heap ∧ va_K D zq_cl (zq_E_init u) t ∧ va_D (va_A [(h0, .inr (5, [.null, .null, .null, .int 0, .int 0, .int 0]))] sz) (zp_E_init h0 a1 a2 a3 u)) (va_A [(h0, .inr (5, [.null, .null, .null, .int 0, .int 0, .int 0]))] sz)) 0 0 (va_A [(h0, .inr (5, [.null, .null, .null, .int 0, .int 0, .int 0]))] sz) := by
  refine Met.ofW (cc := b_E_init) (maxL := 4) (ret := none) (by decide +kernel) rfl ?_
  intro p e s m args below meth c s₁ B hml hv
  obtain ⟨rfl, hsz, hP, hK, hD0, hN⟩ := hv
  have hx := B.exec
  have hb := B.bytes
  have hr := B.returns
  have hts := atoms_spec (ws := Cond.code y_E_init b_E_init 4 none :: zw_w) B.pre
  have ht : ∀ w ∈ zw_w, w.before _ s = true := fun w hw => hts w (List.mem_cons_of_mem _ hw)
  have hown : s.vm.findClass "FrameMachine$Exceptions" = some m.cls := findClass_of_methodNamed B.named
  have hlocks := B.notSynchronized
  have hin : meth.name = "<init>" := (name_of_methodNamed B.named B.method).1
  subst hsz
  have hD := hD0.self (sz := s.heap.size)
  generalize hAe : va_A [(h0, .inr (5, [.null, .null, .null, .int 0, .int 0, .int 0]))] s.heap.size = A at hD ⊢
  have hA : ∀ q : Nat, s.heap.size ≤ q → A q := fun q h => by rw [← hAe]; exact Or.inr h
  have hS : va_S A s.heap s.heap [] := va_S.rf
  have hl := lv_entry ([.ref h0, .ref a1, .ref a2, .ref a3]) (n := 4) (Nat.le_of_ble_eq_true rfl)
  rw [lg_entry_eq]
  generalize (lg_sl ([.ref h0, .ref a1, .ref a2, .ref a3]) ++ List.replicate (4 - (lg_sl ([.ref h0, .ref a1, .ref a2, .ref a3])).length) Slot.unset).toArray = ls at hl ⊢
  have hl : lv_has ls 4 [(0, .ref h0), (1, .ref a1), (2, .ref a2), (3, .ref a3)] := hl
  refine lv_aload_n hx hb kd_E_init_0 rfl (lv_at hl 0 rfl) ?_
  refine W.objInit hx hb hown (ht _ (zw_in kw_151 rfl)) (ht _ (zw_in kw_22 rfl)) (ht _ (zw_in kw_23 rfl)) rfl (by rw [hml]; exact hl.1) rfl kd_E_init_1 (Nat.le_of_ble_eq_true rfl) (Nat.le_of_ble_eq_true rfl) ?_
  refine W.eq (g2 := F0 m 4 ls []) rfl ?_
  refine lv_aload_n hx hb kd_E_init_4 rfl (lv_at hl 0 rfl) ?_
  refine lv_aload_n hx hb kd_E_init_5 rfl (lv_at hl 1 rfl) ?_
  refine va_putF (D := D) (ci := 5) (v := .ref a1) (ty := (.object "FrameMachine$Bus")) (C := "FrameMachine$Exceptions") (T := zT_E) (N := 6) hx hb ht zi_E zt_E zto_E zn_E hown hK hP hD hS 0 rfl rfl 0 (by decide) (ht _ (zw_in kw_152 rfl)) (fun _ h9 => h9) rfl hin rfl (by decide +kernel) rfl rfl (Nat.le_of_ble_eq_true rfl) kd_E_init_6 (fun H locs hP hD hS => ?_)
  have hP : va_P D zq_cl [(h0, .inr (5, [.ref a1, .null, .null, .int 0, .int 0, .int 0]))] H := hP
  have hD : va_D A [(h0, .inr (5, [.ref a1, .null, .null, .int 0, .int 0, .int 0]))] := hD
  refine lv_aload_n hx hb kd_E_init_9 rfl (lv_at hl 0 rfl) ?_
  refine lv_aload_n hx hb kd_E_init_10 rfl (lv_at hl 2 rfl) ?_
  refine va_putF (D := D) (ci := 5) (v := .ref a2) (ty := (.object "FrameMachine$Registers")) (C := "FrameMachine$Exceptions") (T := zT_E) (N := 6) hx hb ht zi_E zt_E zto_E zn_E hown hK hP hD hS 0 rfl rfl 1 (by decide) (ht _ (zw_in kw_153 rfl)) (fun _ h9 => h9) rfl hin rfl (by decide +kernel) rfl rfl (Nat.le_of_ble_eq_true rfl) kd_E_init_11 (fun H locs hP hD hS => ?_)
  have hP : va_P D zq_cl [(h0, .inr (5, [.ref a1, .ref a2, .null, .int 0, .int 0, .int 0]))] H := hP
  have hD : va_D A [(h0, .inr (5, [.ref a1, .ref a2, .null, .int 0, .int 0, .int 0]))] := hD
  refine lv_aload_n hx hb kd_E_init_14 rfl (lv_at hl 0 rfl) ?_
  refine lv_aload_n hx hb kd_E_init_15 rfl (lv_at hl 3 rfl) ?_
  refine va_putF (D := D) (ci := 5) (v := .ref a3) (ty := (.object "FrameMachine$Pointers")) (C := "FrameMachine$Exceptions") (T := zT_E) (N := 6) hx hb ht zi_E zt_E zto_E zn_E hown hK hP hD hS 0 rfl rfl 2 (by decide) (ht _ (zw_in kw_154 rfl)) (fun _ h9 => h9) rfl hin rfl (by decide +kernel) rfl rfl (Nat.le_of_ble_eq_true rfl) kd_E_init_16 (fun H locs hP hD hS => ?_)
  have hP : va_P D zq_cl [(h0, .inr (5, [.ref a1, .ref a2, .ref a3, .int 0, .int 0, .int 0]))] H := hP
  have hD : va_D A [(h0, .inr (5, [.ref a1, .ref a2, .ref a3, .int 0, .int 0, .int 0]))] := hD
  exact W.vret hx hb hr (fun t ht2 hW => ⟨⟨(), rfl, trivial, (by show va_P _ _ _ t.heap; rw [ht2]; exact hP), va_K.moved hW.alike hK, hD⟩, hS.F ht2⟩) hS.2.2 kd_E_init_19 (hlocks := hlocks)
abbrev b_I_init : ByteArray := prog_6_method_1_code
def y_I_init : MethodName := ⟨"FrameMachine$Instruction", "<init>", "()V"⟩
theorem kd_I_init_0 : decode b_I_init 0 = .ok (.aload_n 0, 1) := by decide +kernel
theorem kd_I_init_1 : decode b_I_init 1 = .ok (.invokespecial 3, 3) := by decide +kernel
theorem kd_I_init_4 : decode b_I_init 4 = .ok (.return_, 1) := by decide +kernel
theorem kw_186 : (Jvm.Cond.methodLink "FrameMachine$Instruction" (3 : Nat) ({ cls := "java/lang/Object", name := "<init>", desc := "()V" } : Jvm.MethodName)) ∈ lw_tbl := zk_1 (List.mem_of_getElem? (i := 186) rfl)
def zp_I_init (h0 : Nat)  (u : Unit) : va_W := [(h0, .inr (7, [.int 0, .int 0, .int 0, .int 0, .int 0, .int 0]))]
def zq_I_init (u : Unit) : List (ClassId × FieldType) := []
theorem c_I_init (l : Launch) (D : va_G) (h0 : Nat)  (sz : Nat) : Met l y_I_init (Cond.code y_I_init b_I_init 1 none :: zw_w) ({ frames := 1, cells := 0, slots := 0, locals := 12 }) (va_Pc [.ref h0] (fun U => U.heap.size = sz ∧ va_P D zq_cl [(h0, .inr (7, [.int 0, .int 0, .int 0, .int 0, .int 0, .int 0]))] U.heap ∧ va_K D zq_cl [] U ∧ va_D (fun _ => True) [(h0, .inr (7, [.int 0, .int 0, .int 0, .int 0, .int 0, .int 0]))] ∧ zw_N U)) (va_Qv (fun _ : Unit => True) (fun u t => va_P D zq_cl (zp_I_init h0  u) t.heap ∧ va_K D zq_cl (zq_I_init u) t ∧ va_D (va_A [(h0, .inr (7, [.int 0, .int 0, .int 0, .int 0, .int 0, .int 0]))] sz) (zp_I_init h0  u)) (va_A [(h0, .inr (7, [.int 0, .int 0, .int 0, .int 0, .int 0, .int 0]))] sz)) 0 0 (va_A [(h0, .inr (7, [.int 0, .int 0, .int 0, .int 0, .int 0, .int 0]))] sz) := by
  refine Met.ofW (cc := b_I_init) (maxL := 1) (ret := none) (by decide +kernel) rfl ?_
  intro p e s m args below meth c s₁ B hml hv
  obtain ⟨rfl, hsz, hP, hK, hD0, hN⟩ := hv
  have hx := B.exec
  have hb := B.bytes
  have hr := B.returns
  have hts := atoms_spec (ws := Cond.code y_I_init b_I_init 1 none :: zw_w) B.pre
  have ht : ∀ w ∈ zw_w, w.before _ s = true := fun w hw => hts w (List.mem_cons_of_mem _ hw)
  have hown : s.vm.findClass "FrameMachine$Instruction" = some m.cls := findClass_of_methodNamed B.named
  have hlocks := B.notSynchronized
  have hin : meth.name = "<init>" := (name_of_methodNamed B.named B.method).1
  subst hsz
  have hD := hD0.self (sz := s.heap.size)
  generalize hAe : va_A [(h0, .inr (7, [.int 0, .int 0, .int 0, .int 0, .int 0, .int 0]))] s.heap.size = A at hD ⊢
  have hA : ∀ q : Nat, s.heap.size ≤ q → A q := fun q h => by rw [← hAe]; exact Or.inr h
  have hS : va_S A s.heap s.heap [] := va_S.rf
  have hl := lv_entry ([.ref h0]) (n := 1) (Nat.le_of_ble_eq_true rfl)
  rw [lg_entry_eq]
  generalize (lg_sl ([.ref h0]) ++ List.replicate (1 - (lg_sl ([.ref h0])).length) Slot.unset).toArray = ls at hl ⊢
  have hl : lv_has ls 1 [(0, .ref h0)] := hl
  refine lv_aload_n hx hb kd_I_init_0 rfl (lv_at hl 0 rfl) ?_
  refine W.objInit hx hb hown (ht _ (zw_in kw_186 rfl)) (ht _ (zw_in kw_22 rfl)) (ht _ (zw_in kw_23 rfl)) rfl (by rw [hml]; exact hl.1) rfl kd_I_init_1 (Nat.le_of_ble_eq_true rfl) (Nat.le_of_ble_eq_true rfl) ?_
  refine W.eq (g2 := F0 m 4 ls []) rfl ?_
  exact W.vret hx hb hr (fun t ht2 hW => ⟨⟨(), rfl, trivial, (by show va_P _ _ _ t.heap; rw [ht2]; exact hP), va_K.moved hW.alike hK, hD⟩, hS.F ht2⟩) hS.2.2 kd_I_init_4 (hlocks := hlocks)
abbrev b_O_init : ByteArray := prog_7_method_1_code
def y_O_init : MethodName := ⟨"FrameMachine$Operand", "<init>", "(LFrameMachine$Bus;LFrameMachine$Registers;LFrameMachine$Pointers;)V"⟩
theorem kd_O_init_0 : decode b_O_init 0 = .ok (.aload_n 0, 1) := by decide +kernel
theorem kd_O_init_1 : decode b_O_init 1 = .ok (.invokespecial 3, 3) := by decide +kernel
theorem kd_O_init_4 : decode b_O_init 4 = .ok (.aload_n 0, 1) := by decide +kernel
theorem kd_O_init_5 : decode b_O_init 5 = .ok (.aload_n 1, 1) := by decide +kernel
theorem kd_O_init_6 : decode b_O_init 6 = .ok (.putfield 9, 3) := by decide +kernel
theorem kd_O_init_9 : decode b_O_init 9 = .ok (.aload_n 0, 1) := by decide +kernel
theorem kd_O_init_10 : decode b_O_init 10 = .ok (.aload_n 2, 1) := by decide +kernel
theorem kd_O_init_11 : decode b_O_init 11 = .ok (.putfield 15, 3) := by decide +kernel
theorem kd_O_init_14 : decode b_O_init 14 = .ok (.aload_n 0, 1) := by decide +kernel
theorem kd_O_init_15 : decode b_O_init 15 = .ok (.aload_n 3, 1) := by decide +kernel
theorem kd_O_init_16 : decode b_O_init 16 = .ok (.putfield 19, 3) := by decide +kernel
theorem kd_O_init_19 : decode b_O_init 19 = .ok (.return_, 1) := by decide +kernel
theorem kw_219 : (Jvm.Cond.methodLink "FrameMachine$Operand" (3 : Nat) ({ cls := "java/lang/Object", name := "<init>", desc := "()V" } : Jvm.MethodName)) ∈ lw_tbl := zk_1 (List.mem_of_getElem? (i := 219) rfl)
def zp_O_init (h0 : Nat) (a1 : Nat) (a2 : Nat) (a3 : Nat) (u : Unit) : va_W := [(h0, .inr (8, [.ref a1, .ref a2, .ref a3, .int 0, .int 0, .int 0, .int 0, .int 0]))]
def zq_O_init (u : Unit) : List (ClassId × FieldType) := []
theorem c_O_init (l : Launch) (D : va_G) (h0 : Nat) (a1 : Nat) (a2 : Nat) (a3 : Nat) (sz : Nat) : Met l y_O_init (Cond.code y_O_init b_O_init 4 none :: zw_w) ({ frames := 1, cells := 0, slots := 0, locals := 12 }) (va_Pc [.ref h0, .ref a1, .ref a2, .ref a3] (fun U => U.heap.size = sz ∧ va_P D zq_cl [(h0, .inr (8, [.null, .null, .null, .int 0, .int 0, .int 0, .int 0, .int 0]))] U.heap ∧ va_K D zq_cl [] U ∧ va_D (fun _ => True) [(h0, .inr (8, [.null, .null, .null, .int 0, .int 0, .int 0, .int 0, .int 0]))] ∧ zw_N U)) (va_Qv (fun _ : Unit => True) (fun u t => va_P D zq_cl (zp_O_init h0 a1 a2 a3 u) t.heap ∧ va_K D zq_cl (zq_O_init u) t ∧ va_D (va_A [(h0, .inr (8, [.null, .null, .null, .int 0, .int 0, .int 0, .int 0, .int 0]))] sz) (zp_O_init h0 a1 a2 a3 u)) (va_A [(h0, .inr (8, [.null, .null, .null, .int 0, .int 0, .int 0, .int 0, .int 0]))] sz)) 0 0 (va_A [(h0, .inr (8, [.null, .null, .null, .int 0, .int 0, .int 0, .int 0, .int 0]))] sz) := by
  refine Met.ofW (cc := b_O_init) (maxL := 4) (ret := none) (by decide +kernel) rfl ?_
  intro p e s m args below meth c s₁ B hml hv
  obtain ⟨rfl, hsz, hP, hK, hD0, hN⟩ := hv
  have hx := B.exec
  have hb := B.bytes
  have hr := B.returns
  have hts := atoms_spec (ws := Cond.code y_O_init b_O_init 4 none :: zw_w) B.pre
  have ht : ∀ w ∈ zw_w, w.before _ s = true := fun w hw => hts w (List.mem_cons_of_mem _ hw)
  have hown : s.vm.findClass "FrameMachine$Operand" = some m.cls := findClass_of_methodNamed B.named
  have hlocks := B.notSynchronized
  have hin : meth.name = "<init>" := (name_of_methodNamed B.named B.method).1
  subst hsz
  have hD := hD0.self (sz := s.heap.size)
  generalize hAe : va_A [(h0, .inr (8, [.null, .null, .null, .int 0, .int 0, .int 0, .int 0, .int 0]))] s.heap.size = A at hD ⊢
  have hA : ∀ q : Nat, s.heap.size ≤ q → A q := fun q h => by rw [← hAe]; exact Or.inr h
  have hS : va_S A s.heap s.heap [] := va_S.rf
  have hl := lv_entry ([.ref h0, .ref a1, .ref a2, .ref a3]) (n := 4) (Nat.le_of_ble_eq_true rfl)
  rw [lg_entry_eq]
  generalize (lg_sl ([.ref h0, .ref a1, .ref a2, .ref a3]) ++ List.replicate (4 - (lg_sl ([.ref h0, .ref a1, .ref a2, .ref a3])).length) Slot.unset).toArray = ls at hl ⊢
  have hl : lv_has ls 4 [(0, .ref h0), (1, .ref a1), (2, .ref a2), (3, .ref a3)] := hl
  refine lv_aload_n hx hb kd_O_init_0 rfl (lv_at hl 0 rfl) ?_
  refine W.objInit hx hb hown (ht _ (zw_in kw_219 rfl)) (ht _ (zw_in kw_22 rfl)) (ht _ (zw_in kw_23 rfl)) rfl (by rw [hml]; exact hl.1) rfl kd_O_init_1 (Nat.le_of_ble_eq_true rfl) (Nat.le_of_ble_eq_true rfl) ?_
  refine W.eq (g2 := F0 m 4 ls []) rfl ?_
  refine lv_aload_n hx hb kd_O_init_4 rfl (lv_at hl 0 rfl) ?_
  refine lv_aload_n hx hb kd_O_init_5 rfl (lv_at hl 1 rfl) ?_
  refine va_putF (D := D) (ci := 8) (v := .ref a1) (ty := (.object "FrameMachine$Bus")) (C := "FrameMachine$Operand") (T := zT_O) (N := 8) hx hb ht zi_O zt_O zto_O zn_O hown hK hP hD hS 0 rfl rfl 0 (by decide) (ht _ (zw_in kw_220 rfl)) (fun _ h9 => h9) rfl hin rfl (by decide +kernel) rfl rfl (Nat.le_of_ble_eq_true rfl) kd_O_init_6 (fun H locs hP hD hS => ?_)
  have hP : va_P D zq_cl [(h0, .inr (8, [.ref a1, .null, .null, .int 0, .int 0, .int 0, .int 0, .int 0]))] H := hP
  have hD : va_D A [(h0, .inr (8, [.ref a1, .null, .null, .int 0, .int 0, .int 0, .int 0, .int 0]))] := hD
  refine lv_aload_n hx hb kd_O_init_9 rfl (lv_at hl 0 rfl) ?_
  refine lv_aload_n hx hb kd_O_init_10 rfl (lv_at hl 2 rfl) ?_
  refine va_putF (D := D) (ci := 8) (v := .ref a2) (ty := (.object "FrameMachine$Registers")) (C := "FrameMachine$Operand") (T := zT_O) (N := 8) hx hb ht zi_O zt_O zto_O zn_O hown hK hP hD hS 0 rfl rfl 1 (by decide) (ht _ (zw_in kw_221 rfl)) (fun _ h9 => h9) rfl hin rfl (by decide +kernel) rfl rfl (Nat.le_of_ble_eq_true rfl) kd_O_init_11 (fun H locs hP hD hS => ?_)
  have hP : va_P D zq_cl [(h0, .inr (8, [.ref a1, .ref a2, .null, .int 0, .int 0, .int 0, .int 0, .int 0]))] H := hP
  have hD : va_D A [(h0, .inr (8, [.ref a1, .ref a2, .null, .int 0, .int 0, .int 0, .int 0, .int 0]))] := hD
  refine lv_aload_n hx hb kd_O_init_14 rfl (lv_at hl 0 rfl) ?_
  refine lv_aload_n hx hb kd_O_init_15 rfl (lv_at hl 3 rfl) ?_
  refine va_putF (D := D) (ci := 8) (v := .ref a3) (ty := (.object "FrameMachine$Pointers")) (C := "FrameMachine$Operand") (T := zT_O) (N := 8) hx hb ht zi_O zt_O zto_O zn_O hown hK hP hD hS 0 rfl rfl 2 (by decide) (ht _ (zw_in kw_222 rfl)) (fun _ h9 => h9) rfl hin rfl (by decide +kernel) rfl rfl (Nat.le_of_ble_eq_true rfl) kd_O_init_16 (fun H locs hP hD hS => ?_)
  have hP : va_P D zq_cl [(h0, .inr (8, [.ref a1, .ref a2, .ref a3, .int 0, .int 0, .int 0, .int 0, .int 0]))] H := hP
  have hD : va_D A [(h0, .inr (8, [.ref a1, .ref a2, .ref a3, .int 0, .int 0, .int 0, .int 0, .int 0]))] := hD
  exact W.vret hx hb hr (fun t ht2 hW => ⟨⟨(), rfl, trivial, (by show va_P _ _ _ t.heap; rw [ht2]; exact hP), va_K.moved hW.alike hK, hD⟩, hS.F ht2⟩) hS.2.2 kd_O_init_19 (hlocks := hlocks)
abbrev b_A_init : ByteArray := prog_2_method_1_code
def y_A_init : MethodName := ⟨"FrameMachine$Arithmetic", "<init>", "(LFrameMachine$Registers;)V"⟩
theorem kd_A_init_0 : decode b_A_init 0 = .ok (.aload_n 0, 1) := by decide +kernel
theorem kd_A_init_1 : decode b_A_init 1 = .ok (.invokespecial 3, 3) := by decide +kernel
theorem kd_A_init_4 : decode b_A_init 4 = .ok (.aload_n 0, 1) := by decide +kernel
theorem kd_A_init_5 : decode b_A_init 5 = .ok (.aload_n 1, 1) := by decide +kernel
theorem kd_A_init_6 : decode b_A_init 6 = .ok (.putfield 9, 3) := by decide +kernel
theorem kd_A_init_9 : decode b_A_init 9 = .ok (.return_, 1) := by decide +kernel
theorem kw_252 : (Jvm.Cond.methodLink "FrameMachine$Arithmetic" (3 : Nat) ({ cls := "java/lang/Object", name := "<init>", desc := "()V" } : Jvm.MethodName)) ∈ lw_tbl := zk_2 (List.mem_of_getElem? (i := 12) rfl)
def zp_A_init (h0 : Nat) (a1 : Nat) (u : Unit) : va_W := [(h0, .inr (9, [.ref a1]))]
def zq_A_init (u : Unit) : List (ClassId × FieldType) := []
theorem c_A_init (l : Launch) (D : va_G) (h0 : Nat) (a1 : Nat) (sz : Nat) : Met l y_A_init (Cond.code y_A_init b_A_init 2 none :: zw_w) ({ frames := 1, cells := 0, slots := 0, locals := 12 }) (va_Pc [.ref h0, .ref a1] (fun U => U.heap.size = sz ∧ va_P D zq_cl [(h0, .inr (9, [.null]))] U.heap ∧ va_K D zq_cl [] U ∧ va_D (fun _ => True) [(h0, .inr (9, [.null]))] ∧ zw_N U)) (va_Qv (fun _ : Unit => True) (fun u t => va_P D zq_cl (zp_A_init h0 a1 u) t.heap ∧ va_K D zq_cl (zq_A_init u) t ∧ va_D (va_A [(h0, .inr (9, [.null]))] sz) (zp_A_init h0 a1 u)) (va_A [(h0, .inr (9, [.null]))] sz)) 0 0 (va_A [(h0, .inr (9, [.null]))] sz) := by
  refine Met.ofW (cc := b_A_init) (maxL := 2) (ret := none) (by decide +kernel) rfl ?_
  intro p e s m args below meth c s₁ B hml hv
  obtain ⟨rfl, hsz, hP, hK, hD0, hN⟩ := hv
  have hx := B.exec
  have hb := B.bytes
  have hr := B.returns
  have hts := atoms_spec (ws := Cond.code y_A_init b_A_init 2 none :: zw_w) B.pre
  have ht : ∀ w ∈ zw_w, w.before _ s = true := fun w hw => hts w (List.mem_cons_of_mem _ hw)
  have hown : s.vm.findClass "FrameMachine$Arithmetic" = some m.cls := findClass_of_methodNamed B.named
  have hlocks := B.notSynchronized
  have hin : meth.name = "<init>" := (name_of_methodNamed B.named B.method).1
  subst hsz
  have hD := hD0.self (sz := s.heap.size)
  generalize hAe : va_A [(h0, .inr (9, [.null]))] s.heap.size = A at hD ⊢
  have hA : ∀ q : Nat, s.heap.size ≤ q → A q := fun q h => by rw [← hAe]; exact Or.inr h
  have hS : va_S A s.heap s.heap [] := va_S.rf
  have hl := lv_entry ([.ref h0, .ref a1]) (n := 2) (Nat.le_of_ble_eq_true rfl)
  rw [lg_entry_eq]
  generalize (lg_sl ([.ref h0, .ref a1]) ++ List.replicate (2 - (lg_sl ([.ref h0, .ref a1])).length) Slot.unset).toArray = ls at hl ⊢
  have hl : lv_has ls 2 [(0, .ref h0), (1, .ref a1)] := hl
  refine lv_aload_n hx hb kd_A_init_0 rfl (lv_at hl 0 rfl) ?_
  refine W.objInit hx hb hown (ht _ (zw_in kw_252 rfl)) (ht _ (zw_in kw_22 rfl)) (ht _ (zw_in kw_23 rfl)) rfl (by rw [hml]; exact hl.1) rfl kd_A_init_1 (Nat.le_of_ble_eq_true rfl) (Nat.le_of_ble_eq_true rfl) ?_
  refine W.eq (g2 := F0 m 4 ls []) rfl ?_
  refine lv_aload_n hx hb kd_A_init_4 rfl (lv_at hl 0 rfl) ?_
  refine lv_aload_n hx hb kd_A_init_5 rfl (lv_at hl 1 rfl) ?_
  refine va_putF (D := D) (ci := 9) (v := .ref a1) (ty := (.object "FrameMachine$Registers")) (C := "FrameMachine$Arithmetic") (T := zT_A) (N := 1) hx hb ht zi_A zt_A zto_A zn_A hown hK hP hD hS 0 rfl rfl 0 (by decide) (ht _ (zw_in kw_253 rfl)) (fun _ h9 => h9) rfl hin rfl (by decide +kernel) rfl rfl (Nat.le_of_ble_eq_true rfl) kd_A_init_6 (fun H locs hP hD hS => ?_)
  have hP : va_P D zq_cl [(h0, .inr (9, [.ref a1]))] H := hP
  have hD : va_D A [(h0, .inr (9, [.ref a1]))] := hD
  exact W.vret hx hb hr (fun t ht2 hW => ⟨⟨(), rfl, trivial, (by show va_P _ _ _ t.heap; rw [ht2]; exact hP), va_K.moved hW.alike hK, hD⟩, hS.F ht2⟩) hS.2.2 kd_A_init_9 (hlocks := hlocks)
abbrev b_P_init : ByteArray := prog_9_method_1_code
def y_P_init : MethodName := ⟨"FrameMachine$Processor", "<init>", "(LFrameMachine$Bus;LFrameMachine$Registers;LFrameMachine$Pointers;LFrameMachine$Exceptions;)V"⟩
theorem kd_P_init_0 : decode b_P_init 0 = .ok (.aload_n 0, 1) := by decide +kernel
theorem kd_P_init_1 : decode b_P_init 1 = .ok (.invokespecial 3, 3) := by decide +kernel
theorem kd_P_init_4 : decode b_P_init 4 = .ok (.aload_n 0, 1) := by decide +kernel
theorem kd_P_init_5 : decode b_P_init 5 = .ok (.new 9, 3) := by decide +kernel
theorem kd_P_init_8 : decode b_P_init 8 = .ok (.dup, 1) := by decide +kernel
theorem kd_P_init_9 : decode b_P_init 9 = .ok (.invokespecial 11, 3) := by decide +kernel
theorem kd_P_init_12 : decode b_P_init 12 = .ok (.putfield 12, 3) := by decide +kernel
theorem kd_P_init_15 : decode b_P_init 15 = .ok (.aload_n 0, 1) := by decide +kernel
theorem kd_P_init_16 : decode b_P_init 16 = .ok (.aload_n 1, 1) := by decide +kernel
theorem kd_P_init_17 : decode b_P_init 17 = .ok (.putfield 18, 3) := by decide +kernel
theorem kd_P_init_20 : decode b_P_init 20 = .ok (.aload_n 0, 1) := by decide +kernel
theorem kd_P_init_21 : decode b_P_init 21 = .ok (.aload_n 2, 1) := by decide +kernel
theorem kd_P_init_22 : decode b_P_init 22 = .ok (.putfield 22, 3) := by decide +kernel
theorem kd_P_init_25 : decode b_P_init 25 = .ok (.aload_n 0, 1) := by decide +kernel
theorem kd_P_init_26 : decode b_P_init 26 = .ok (.aload_n 3, 1) := by decide +kernel
theorem kd_P_init_27 : decode b_P_init 27 = .ok (.putfield 26, 3) := by decide +kernel
theorem kd_P_init_30 : decode b_P_init 30 = .ok (.aload_n 0, 1) := by decide +kernel
theorem kd_P_init_31 : decode b_P_init 31 = .ok (.aload 4, 2) := by decide +kernel
theorem kd_P_init_33 : decode b_P_init 33 = .ok (.putfield 30, 3) := by decide +kernel
theorem kd_P_init_36 : decode b_P_init 36 = .ok (.aload_n 0, 1) := by decide +kernel
theorem kd_P_init_37 : decode b_P_init 37 = .ok (.new 34, 3) := by decide +kernel
theorem kd_P_init_40 : decode b_P_init 40 = .ok (.dup, 1) := by decide +kernel
theorem kd_P_init_41 : decode b_P_init 41 = .ok (.aload_n 1, 1) := by decide +kernel
theorem kd_P_init_42 : decode b_P_init 42 = .ok (.aload_n 2, 1) := by decide +kernel
theorem kd_P_init_43 : decode b_P_init 43 = .ok (.aload_n 3, 1) := by decide +kernel
theorem kd_P_init_44 : decode b_P_init 44 = .ok (.invokespecial 36, 3) := by decide +kernel
theorem kd_P_init_47 : decode b_P_init 47 = .ok (.putfield 39, 3) := by decide +kernel
theorem kd_P_init_50 : decode b_P_init 50 = .ok (.aload_n 0, 1) := by decide +kernel
theorem kd_P_init_51 : decode b_P_init 51 = .ok (.new 43, 3) := by decide +kernel
theorem kd_P_init_54 : decode b_P_init 54 = .ok (.dup, 1) := by decide +kernel
theorem kd_P_init_55 : decode b_P_init 55 = .ok (.aload_n 2, 1) := by decide +kernel
theorem kd_P_init_56 : decode b_P_init 56 = .ok (.invokespecial 45, 3) := by decide +kernel
theorem kd_P_init_59 : decode b_P_init 59 = .ok (.putfield 48, 3) := by decide +kernel
theorem kd_P_init_62 : decode b_P_init 62 = .ok (.return_, 1) := by decide +kernel
theorem kw_180 : (Jvm.Cond.methodLink "FrameMachine$Processor" (3 : Nat) ({ cls := "java/lang/Object", name := "<init>", desc := "()V" } : Jvm.MethodName)) ∈ lw_tbl := zk_1 (List.mem_of_getElem? (i := 180) rfl)
theorem kw_181 : (Jvm.Cond.classLink "FrameMachine$Processor" (9 : Nat) "FrameMachine$Instruction") ∈ lw_tbl := zk_1 (List.mem_of_getElem? (i := 181) rfl)
theorem kw_182 : (Jvm.Cond.instantiable "FrameMachine$Instruction" (6 : Nat)) ∈ lw_tbl := zk_1 (List.mem_of_getElem? (i := 182) rfl)
theorem kw_185 : (Jvm.Cond.code ({ cls := "FrameMachine$Instruction", name := "<init>", desc := "()V" } : Jvm.MethodName) prog_6_method_1_code (1 : Nat) (Option.none : Option Jvm.ClassFile.FieldType)) ∈ lw_tbl := zk_1 (List.mem_of_getElem? (i := 185) rfl)
theorem kw_183 : (Jvm.Cond.methodLinkNest "FrameMachine$Processor" (11 : Nat) ({ cls := "FrameMachine$Instruction", name := "<init>", desc := "()V" } : Jvm.MethodName) "FrameMachine") ∈ lw_tbl := zk_1 (List.mem_of_getElem? (i := 183) rfl)
theorem kw_184 : (Jvm.Cond.instanceMethod ({ cls := "FrameMachine$Instruction", name := "<init>", desc := "()V" } : Jvm.MethodName)) ∈ lw_tbl := zk_1 (List.mem_of_getElem? (i := 184) rfl)
theorem kw_214 : (Jvm.Cond.classLink "FrameMachine$Processor" (34 : Nat) "FrameMachine$Operand") ∈ lw_tbl := zk_1 (List.mem_of_getElem? (i := 214) rfl)
theorem kw_215 : (Jvm.Cond.instantiable "FrameMachine$Operand" (8 : Nat)) ∈ lw_tbl := zk_1 (List.mem_of_getElem? (i := 215) rfl)
theorem kw_218 : (Jvm.Cond.code ({ cls := "FrameMachine$Operand", name := "<init>", desc := "(LFrameMachine$Bus;LFrameMachine$Registers;LFrameMachine$Pointers;)V" } : Jvm.MethodName) prog_7_method_1_code (4 : Nat) (Option.none : Option Jvm.ClassFile.FieldType)) ∈ lw_tbl := zk_1 (List.mem_of_getElem? (i := 218) rfl)
theorem kw_216 : (Jvm.Cond.methodLink "FrameMachine$Processor" (36 : Nat) ({ cls := "FrameMachine$Operand", name := "<init>", desc := "(LFrameMachine$Bus;LFrameMachine$Registers;LFrameMachine$Pointers;)V" } : Jvm.MethodName)) ∈ lw_tbl := zk_1 (List.mem_of_getElem? (i := 216) rfl)
theorem kw_217 : (Jvm.Cond.instanceMethod ({ cls := "FrameMachine$Operand", name := "<init>", desc := "(LFrameMachine$Bus;LFrameMachine$Registers;LFrameMachine$Pointers;)V" } : Jvm.MethodName)) ∈ lw_tbl := zk_1 (List.mem_of_getElem? (i := 217) rfl)
theorem kw_247 : (Jvm.Cond.classLink "FrameMachine$Processor" (43 : Nat) "FrameMachine$Arithmetic") ∈ lw_tbl := zk_2 (List.mem_of_getElem? (i := 7) rfl)
theorem kw_248 : (Jvm.Cond.instantiable "FrameMachine$Arithmetic" (1 : Nat)) ∈ lw_tbl := zk_2 (List.mem_of_getElem? (i := 8) rfl)
theorem kw_251 : (Jvm.Cond.code ({ cls := "FrameMachine$Arithmetic", name := "<init>", desc := "(LFrameMachine$Registers;)V" } : Jvm.MethodName) prog_2_method_1_code (2 : Nat) (Option.none : Option Jvm.ClassFile.FieldType)) ∈ lw_tbl := zk_2 (List.mem_of_getElem? (i := 11) rfl)
theorem kw_249 : (Jvm.Cond.methodLink "FrameMachine$Processor" (45 : Nat) ({ cls := "FrameMachine$Arithmetic", name := "<init>", desc := "(LFrameMachine$Registers;)V" } : Jvm.MethodName)) ∈ lw_tbl := zk_2 (List.mem_of_getElem? (i := 9) rfl)
theorem kw_250 : (Jvm.Cond.instanceMethod ({ cls := "FrameMachine$Arithmetic", name := "<init>", desc := "(LFrameMachine$Registers;)V" } : Jvm.MethodName)) ∈ lw_tbl := zk_2 (List.mem_of_getElem? (i := 10) rfl)
def zp_P_init (h0 : Nat) (a1 : Nat) (a2 : Nat) (a3 : Nat) (a4 : Nat) (u : Nat × Nat × Nat) : va_W := [(h0, .inr (6, [.ref a1, .ref a2, .ref a3, .ref a4, .ref u.1, .ref u.2.1, .ref u.2.2, .int 0, .int 0, .int 0, .int 0])), (u.1, .inr (7, [.int 0, .int 0, .int 0, .int 0, .int 0, .int 0])), (u.2.1, .inr (8, [.ref a1, .ref a2, .ref a3, .int 0, .int 0, .int 0, .int 0, .int 0])), (u.2.2, .inr (9, [.ref a2]))]
def zq_P_init (u : Nat × Nat × Nat) : List (ClassId × FieldType) := []
theorem c_P_init (l : Launch) (D : va_G) (h0 : Nat) (a1 : Nat) (a2 : Nat) (a3 : Nat) (a4 : Nat) (sz : Nat) : Met l y_P_init (Cond.code y_P_init b_P_init 5 none :: zw_w) ({ frames := 2, cells := 3, slots := 15, locals := 35 }) (va_Pc [.ref h0, .ref a1, .ref a2, .ref a3, .ref a4] (fun U => U.heap.size = sz ∧ va_P D zq_cl [(h0, .inr (6, [.null, .null, .null, .null, .null, .null, .null, .int 0, .int 0, .int 0, .int 0]))] U.heap ∧ va_K D zq_cl [] U ∧ va_D (fun _ => True) [(h0, .inr (6, [.null, .null, .null, .null, .null, .null, .null, .int 0, .int 0, .int 0, .int 0]))] ∧ zw_N U)) (va_Qv (fun _ : Nat × Nat × Nat => True) (fun u t => va_P D zq_cl (zp_P_init h0 a1 a2 a3 a4 u) t.heap ∧ va_K D zq_cl (zq_P_init u) t ∧ va_D (va_A [(h0, .inr (6, [.null, .null, .null, .null, .null, .null, .null, .int 0, .int 0, .int 0, .int 0]))] sz) (zp_P_init h0 a1 a2 a3 a4 u)) (va_A [(h0, .inr (6, [.null, .null, .null, .null, .null, .null, .null, .int 0, .int 0, .int 0, .int 0]))] sz)) 3 15 (va_A [(h0, .inr (6, [.null, .null, .null, .null, .null, .null, .null, .int 0, .int 0, .int 0, .int 0]))] sz) := by
  refine Met.ofW (cc := b_P_init) (maxL := 5) (ret := none) (by decide +kernel) rfl ?_
  intro p e s m args below meth c s₁ B hml hv
  obtain ⟨rfl, hsz, hP, hK, hD0, hN⟩ := hv
  have hx := B.exec
  have hb := B.bytes
  have hr := B.returns
  have hts := atoms_spec (ws := Cond.code y_P_init b_P_init 5 none :: zw_w) B.pre
  have ht : ∀ w ∈ zw_w, w.before _ s = true := fun w hw => hts w (List.mem_cons_of_mem _ hw)
  have hown : s.vm.findClass "FrameMachine$Processor" = some m.cls := findClass_of_methodNamed B.named
  have hlocks := B.notSynchronized
  have hin : meth.name = "<init>" := (name_of_methodNamed B.named B.method).1
  subst hsz
  have hD := hD0.self (sz := s.heap.size)
  generalize hAe : va_A [(h0, .inr (6, [.null, .null, .null, .null, .null, .null, .null, .int 0, .int 0, .int 0, .int 0]))] s.heap.size = A at hD ⊢
  have hA : ∀ q : Nat, s.heap.size ≤ q → A q := fun q h => by rw [← hAe]; exact Or.inr h
  have hS : va_S A s.heap s.heap [] := va_S.rf
  have hl := lv_entry ([.ref h0, .ref a1, .ref a2, .ref a3, .ref a4]) (n := 5) (Nat.le_of_ble_eq_true rfl)
  rw [lg_entry_eq]
  generalize (lg_sl ([.ref h0, .ref a1, .ref a2, .ref a3, .ref a4]) ++ List.replicate (5 - (lg_sl ([.ref h0, .ref a1, .ref a2, .ref a3, .ref a4])).length) Slot.unset).toArray = ls at hl ⊢
  have hl : lv_has ls 5 [(0, .ref h0), (1, .ref a1), (2, .ref a2), (3, .ref a3), (4, .ref a4)] := hl
  refine lv_aload_n hx hb kd_P_init_0 rfl (lv_at hl 0 rfl) ?_
  refine W.objInit hx hb hown (ht _ (zw_in kw_180 rfl)) (ht _ (zw_in kw_22 rfl)) (ht _ (zw_in kw_23 rfl)) rfl (by rw [hml]; exact hl.1) rfl kd_P_init_1 (Nat.le_of_ble_eq_true rfl) (Nat.le_of_ble_eq_true rfl) ?_
  refine W.eq (g2 := F0 m 4 ls []) rfl ?_
  refine lv_aload_n hx hb kd_P_init_4 rfl (lv_at hl 0 rfl) ?_
  refine va_new (ci := 7) (fs := [.int 0, .int 0, .int 0, .int 0, .int 0, .int 0]) (C := "FrameMachine$Instruction") (T := zT_I) (N := 6) hx hb ht zi_I zt_I zto_I hown (ht _ (zw_in kw_181 rfl)) (ht _ (zw_in kw_182 rfl)) (ht _ (zw_in kw_8 rfl)) hK hP hD hS hA rfl (fun j hj => by rcases (show j = 0 ∨ j = 1 ∨ j = 2 ∨ j = 3 ∨ j = 4 ∨ j = 5 by omega) with rfl | rfl | rfl | rfl | rfl | rfl <;> rfl) (Nat.le_of_ble_eq_true rfl) (Nat.le_of_ble_eq_true rfl) kd_P_init_5 (fun q5 H hP hD hS => ?_)
  have hP : va_P D zq_cl [(h0, .inr (6, [.null, .null, .null, .null, .null, .null, .null, .int 0, .int 0, .int 0, .int 0])), (q5, .inr (7, [.int 0, .int 0, .int 0, .int 0, .int 0, .int 0]))] H := hP
  have hD : va_D A [(h0, .inr (6, [.null, .null, .null, .null, .null, .null, .null, .int 0, .int 0, .int 0, .int 0])), (q5, .inr (7, [.int 0, .int 0, .int 0, .int 0, .int 0, .int 0]))] := hD
  refine W.widen (k := 1) (n := 6) (by omega) (by omega) ?_
  refine lv_dup hx hb kd_P_init_8 rfl ?_
  have hPc := hP.sub (ws' := [(q5, .inr (7, [.int 0, .int 0, .int 0, .int 0, .int 0, .int 0]))]) [1] rfl
  have hDc := hD.sub (ws' := [(q5, .inr (7, [.int 0, .int 0, .int 0, .int 0, .int 0, .int 0]))]) [1] (by decide) rfl
  have hKc := hK.sub (tys' := []) [] rfl
  have hFc := va_free (wc := [(q5, .inr (7, [.int 0, .int 0, .int 0, .int 0, .int 0, .int 0]))]) hD hS hA [1] rfl
  refine va_callv (va_runIN (As := []) (rest := [.ref q5, .ref h0]) ⟨hx, hb, hml, hown, ht⟩ (c_I_init l D q5  H.size) ⟨va_cnB 0 ht (zg_tail kw_185) rfl rfl rfl (hN _ (zw_inN kw_183 rfl)) (ht _ (zw_in kw_8 rfl)) (by decide +kernel) ⟨Nat.le_of_ble_eq_true rfl, Nat.le_of_ble_eq_true rfl⟩, rfl, (ht _ (zw_in kw_184 rfl))⟩ ⟨fun a U g mk q => by obtain ⟨q0, q1, qP, qK, qD, qN⟩ := q; exact ⟨q0, q1, qP, va_K.moved (u := U) (U := U.calling g mk a) (Vm.Alike.refl U.vm) qK, qD, zw_N.same (u := U) (U := U.calling g mk a) rfl qN⟩, fun U hU hW => ⟨rfl, by rw [hU], by rw [hU]; exact hPc, va_K.moved hW.alike hKc, hDc.weaken (fun _ _ _ _ => trivial), zw_N.warm hW hN⟩⟩ rfl rfl hl.1 rfl (lv_room (Nat.le_of_ble_eq_true rfl)) kd_P_init_9 ⟨Nat.le_of_ble_eq_true rfl, Nat.le_of_ble_eq_true rfl⟩) hS (fun q _ h => hFc q h) hFc (fun u9 t H1 locs ht1 hvm h5 hB hz1 hk1 hS => ?_)
  obtain ⟨hP1, hK1, hD1⟩ := hB
  rw [ht1] at hP1
  have hK1 := va_K.moved hvm.symm hK1
  obtain ⟨hP, hD⟩ := va_join (wr := [(h0, .inr (6, [.null, .null, .null, .null, .null, .null, .null, .int 0, .int 0, .int 0, .int 0]))]) (w1 := [(q5, .inr (7, [.int 0, .int 0, .int 0, .int 0, .int 0, .int 0]))]) hP hD [1] [0] rfl rfl (by decide) (by decide) hk1 hFc hP1 hD1
  have hK := hK.app hK1
  generalize H1 = H at hP hS ⊢
  have hK : va_K D zq_cl [] s := hK
  have hP : va_P D zq_cl [(h0, .inr (6, [.null, .null, .null, .null, .null, .null, .null, .int 0, .int 0, .int 0, .int 0])), (q5, .inr (7, [.int 0, .int 0, .int 0, .int 0, .int 0, .int 0]))] H := hP
  have hD : va_D A [(h0, .inr (6, [.null, .null, .null, .null, .null, .null, .null, .int 0, .int 0, .int 0, .int 0])), (q5, .inr (7, [.int 0, .int 0, .int 0, .int 0, .int 0, .int 0]))] := hD
  refine W.widen (k := 1) (n := 6) (by omega) (by omega) ?_
  refine va_putF (D := D) (ci := 6) (v := .ref q5) (ty := (.object "FrameMachine$Instruction")) (C := "FrameMachine$Processor") (T := zT_P) (N := 11) hx hb ht zi_P zt_P zto_P zn_P hown hK hP hD hS 0 rfl rfl 4 (by decide) (ht _ (zw_in kw_261 rfl)) (fun _ h9 => h9) rfl hin rfl (by decide +kernel) rfl rfl (Nat.le_of_ble_eq_true rfl) kd_P_init_12 (fun H locs hP hD hS => ?_)
  have hP : va_P D zq_cl [(h0, .inr (6, [.null, .null, .null, .null, .ref q5, .null, .null, .int 0, .int 0, .int 0, .int 0])), (q5, .inr (7, [.int 0, .int 0, .int 0, .int 0, .int 0, .int 0]))] H := hP
  have hD : va_D A [(h0, .inr (6, [.null, .null, .null, .null, .ref q5, .null, .null, .int 0, .int 0, .int 0, .int 0])), (q5, .inr (7, [.int 0, .int 0, .int 0, .int 0, .int 0, .int 0]))] := hD
  refine lv_aload_n hx hb kd_P_init_15 rfl (lv_at hl 0 rfl) ?_
  refine lv_aload_n hx hb kd_P_init_16 rfl (lv_at hl 1 rfl) ?_
  refine va_putF (D := D) (ci := 6) (v := .ref a1) (ty := (.object "FrameMachine$Bus")) (C := "FrameMachine$Processor") (T := zT_P) (N := 11) hx hb ht zi_P zt_P zto_P zn_P hown hK hP hD hS 0 rfl rfl 0 (by decide) (ht _ (zw_in kw_257 rfl)) (fun _ h9 => h9) rfl hin rfl (by decide +kernel) rfl rfl (Nat.le_of_ble_eq_true rfl) kd_P_init_17 (fun H locs hP hD hS => ?_)
  have hP : va_P D zq_cl [(h0, .inr (6, [.ref a1, .null, .null, .null, .ref q5, .null, .null, .int 0, .int 0, .int 0, .int 0])), (q5, .inr (7, [.int 0, .int 0, .int 0, .int 0, .int 0, .int 0]))] H := hP
  have hD : va_D A [(h0, .inr (6, [.ref a1, .null, .null, .null, .ref q5, .null, .null, .int 0, .int 0, .int 0, .int 0])), (q5, .inr (7, [.int 0, .int 0, .int 0, .int 0, .int 0, .int 0]))] := hD
  refine lv_aload_n hx hb kd_P_init_20 rfl (lv_at hl 0 rfl) ?_
  refine lv_aload_n hx hb kd_P_init_21 rfl (lv_at hl 2 rfl) ?_
  refine va_putF (D := D) (ci := 6) (v := .ref a2) (ty := (.object "FrameMachine$Registers")) (C := "FrameMachine$Processor") (T := zT_P) (N := 11) hx hb ht zi_P zt_P zto_P zn_P hown hK hP hD hS 0 rfl rfl 1 (by decide) (ht _ (zw_in kw_258 rfl)) (fun _ h9 => h9) rfl hin rfl (by decide +kernel) rfl rfl (Nat.le_of_ble_eq_true rfl) kd_P_init_22 (fun H locs hP hD hS => ?_)
  have hP : va_P D zq_cl [(h0, .inr (6, [.ref a1, .ref a2, .null, .null, .ref q5, .null, .null, .int 0, .int 0, .int 0, .int 0])), (q5, .inr (7, [.int 0, .int 0, .int 0, .int 0, .int 0, .int 0]))] H := hP
  have hD : va_D A [(h0, .inr (6, [.ref a1, .ref a2, .null, .null, .ref q5, .null, .null, .int 0, .int 0, .int 0, .int 0])), (q5, .inr (7, [.int 0, .int 0, .int 0, .int 0, .int 0, .int 0]))] := hD
  refine lv_aload_n hx hb kd_P_init_25 rfl (lv_at hl 0 rfl) ?_
  refine lv_aload_n hx hb kd_P_init_26 rfl (lv_at hl 3 rfl) ?_
  refine va_putF (D := D) (ci := 6) (v := .ref a3) (ty := (.object "FrameMachine$Pointers")) (C := "FrameMachine$Processor") (T := zT_P) (N := 11) hx hb ht zi_P zt_P zto_P zn_P hown hK hP hD hS 0 rfl rfl 2 (by decide) (ht _ (zw_in kw_259 rfl)) (fun _ h9 => h9) rfl hin rfl (by decide +kernel) rfl rfl (Nat.le_of_ble_eq_true rfl) kd_P_init_27 (fun H locs hP hD hS => ?_)
  have hP : va_P D zq_cl [(h0, .inr (6, [.ref a1, .ref a2, .ref a3, .null, .ref q5, .null, .null, .int 0, .int 0, .int 0, .int 0])), (q5, .inr (7, [.int 0, .int 0, .int 0, .int 0, .int 0, .int 0]))] H := hP
  have hD : va_D A [(h0, .inr (6, [.ref a1, .ref a2, .ref a3, .null, .ref q5, .null, .null, .int 0, .int 0, .int 0, .int 0])), (q5, .inr (7, [.int 0, .int 0, .int 0, .int 0, .int 0, .int 0]))] := hD
  refine lv_aload_n hx hb kd_P_init_30 rfl (lv_at hl 0 rfl) ?_
  refine lv_aload hx hb kd_P_init_31 (lv_at hl 4 rfl) ?_
  refine va_putF (D := D) (ci := 6) (v := .ref a4) (ty := (.object "FrameMachine$Exceptions")) (C := "FrameMachine$Processor") (T := zT_P) (N := 11) hx hb ht zi_P zt_P zto_P zn_P hown hK hP hD hS 0 rfl rfl 3 (by decide) (ht _ (zw_in kw_260 rfl)) (fun _ h9 => h9) rfl hin rfl (by decide +kernel) rfl rfl (Nat.le_of_ble_eq_true rfl) kd_P_init_33 (fun H locs hP hD hS => ?_)
  have hP : va_P D zq_cl [(h0, .inr (6, [.ref a1, .ref a2, .ref a3, .ref a4, .ref q5, .null, .null, .int 0, .int 0, .int 0, .int 0])), (q5, .inr (7, [.int 0, .int 0, .int 0, .int 0, .int 0, .int 0]))] H := hP
  have hD : va_D A [(h0, .inr (6, [.ref a1, .ref a2, .ref a3, .ref a4, .ref q5, .null, .null, .int 0, .int 0, .int 0, .int 0])), (q5, .inr (7, [.int 0, .int 0, .int 0, .int 0, .int 0, .int 0]))] := hD
  refine lv_aload_n hx hb kd_P_init_36 rfl (lv_at hl 0 rfl) ?_
  refine va_new (ci := 8) (fs := [.null, .null, .null, .int 0, .int 0, .int 0, .int 0, .int 0]) (C := "FrameMachine$Operand") (T := zT_O) (N := 8) hx hb ht zi_O zt_O zto_O hown (ht _ (zw_in kw_214 rfl)) (ht _ (zw_in kw_215 rfl)) (ht _ (zw_in kw_9 rfl)) hK hP hD hS hA rfl (fun j hj => by rcases (show j = 0 ∨ j = 1 ∨ j = 2 ∨ j = 3 ∨ j = 4 ∨ j = 5 ∨ j = 6 ∨ j = 7 by omega) with rfl | rfl | rfl | rfl | rfl | rfl | rfl | rfl <;> rfl) (Nat.le_of_ble_eq_true rfl) (Nat.le_of_ble_eq_true rfl) kd_P_init_37 (fun q37 H hP hD hS => ?_)
  have hP : va_P D zq_cl [(h0, .inr (6, [.ref a1, .ref a2, .ref a3, .ref a4, .ref q5, .null, .null, .int 0, .int 0, .int 0, .int 0])), (q5, .inr (7, [.int 0, .int 0, .int 0, .int 0, .int 0, .int 0])), (q37, .inr (8, [.null, .null, .null, .int 0, .int 0, .int 0, .int 0, .int 0]))] H := hP
  have hD : va_D A [(h0, .inr (6, [.ref a1, .ref a2, .ref a3, .ref a4, .ref q5, .null, .null, .int 0, .int 0, .int 0, .int 0])), (q5, .inr (7, [.int 0, .int 0, .int 0, .int 0, .int 0, .int 0])), (q37, .inr (8, [.null, .null, .null, .int 0, .int 0, .int 0, .int 0, .int 0]))] := hD
  refine W.widen (k := 2) (n := 14) (by omega) (by omega) ?_
  refine lv_dup hx hb kd_P_init_40 rfl ?_
  refine lv_aload_n hx hb kd_P_init_41 rfl (lv_at hl 1 rfl) ?_
  refine lv_aload_n hx hb kd_P_init_42 rfl (lv_at hl 2 rfl) ?_
  refine lv_aload_n hx hb kd_P_init_43 rfl (lv_at hl 3 rfl) ?_
  have hPc := hP.sub (ws' := [(q37, .inr (8, [.null, .null, .null, .int 0, .int 0, .int 0, .int 0, .int 0]))]) [2] rfl
  have hDc := hD.sub (ws' := [(q37, .inr (8, [.null, .null, .null, .int 0, .int 0, .int 0, .int 0, .int 0]))]) [2] (by decide) rfl
  have hKc := hK.sub (tys' := []) [] rfl
  have hFc := va_free (wc := [(q37, .inr (8, [.null, .null, .null, .int 0, .int 0, .int 0, .int 0, .int 0]))]) hD hS hA [2] rfl
  refine va_callv (va_runI (As := [.ref a1, .ref a2, .ref a3]) (rest := [.ref q37, .ref h0]) ⟨hx, hb, hml, hown, ht⟩ (c_O_init l D q37 a1 a2 a3 H.size) (cwI 3 ht (zg_tail kw_218) rfl rfl rfl (ht _ (zw_in kw_9 rfl)) (ht _ (zw_in kw_216 rfl)) (ht _ (zw_in kw_217 rfl)) rfl (by decide +kernel) ⟨Nat.le_of_ble_eq_true rfl, Nat.le_of_ble_eq_true rfl⟩) ⟨fun a U g mk q => by obtain ⟨q0, q1, qP, qK, qD, qN⟩ := q; exact ⟨q0, q1, qP, va_K.moved (u := U) (U := U.calling g mk a) (Vm.Alike.refl U.vm) qK, qD, zw_N.same (u := U) (U := U.calling g mk a) rfl qN⟩, fun U hU hW => ⟨rfl, by rw [hU], by rw [hU]; exact hPc, va_K.moved hW.alike hKc, hDc.weaken (fun _ _ _ _ => trivial), zw_N.warm hW hN⟩⟩ rfl rfl hl.1 rfl (lv_room (Nat.le_of_ble_eq_true rfl)) kd_P_init_44 ⟨Nat.le_of_ble_eq_true rfl, Nat.le_of_ble_eq_true rfl⟩) hS (fun q _ h => hFc q h) hFc (fun u44 t H1 locs ht1 hvm h5 hB hz1 hk1 hS => ?_)
  obtain ⟨hP1, hK1, hD1⟩ := hB
  rw [ht1] at hP1
  have hK1 := va_K.moved hvm.symm hK1
  obtain ⟨hP, hD⟩ := va_join (wr := [(h0, .inr (6, [.ref a1, .ref a2, .ref a3, .ref a4, .ref q5, .null, .null, .int 0, .int 0, .int 0, .int 0])), (q5, .inr (7, [.int 0, .int 0, .int 0, .int 0, .int 0, .int 0]))]) (w1 := [(q37, .inr (8, [.ref a1, .ref a2, .ref a3, .int 0, .int 0, .int 0, .int 0, .int 0]))]) hP hD [2] [0, 1] rfl rfl (by decide) (by decide) hk1 hFc hP1 hD1
  have hK := hK.app hK1
  generalize H1 = H at hP hS ⊢
  have hK : va_K D zq_cl [] s := hK
  have hP : va_P D zq_cl [(h0, .inr (6, [.ref a1, .ref a2, .ref a3, .ref a4, .ref q5, .null, .null, .int 0, .int 0, .int 0, .int 0])), (q5, .inr (7, [.int 0, .int 0, .int 0, .int 0, .int 0, .int 0])), (q37, .inr (8, [.ref a1, .ref a2, .ref a3, .int 0, .int 0, .int 0, .int 0, .int 0]))] H := hP
  have hD : va_D A [(h0, .inr (6, [.ref a1, .ref a2, .ref a3, .ref a4, .ref q5, .null, .null, .int 0, .int 0, .int 0, .int 0])), (q5, .inr (7, [.int 0, .int 0, .int 0, .int 0, .int 0, .int 0])), (q37, .inr (8, [.ref a1, .ref a2, .ref a3, .int 0, .int 0, .int 0, .int 0, .int 0]))] := hD
  refine W.widen (k := 2) (n := 14) (by omega) (by omega) ?_
  refine va_putF (D := D) (ci := 6) (v := .ref q37) (ty := (.object "FrameMachine$Operand")) (C := "FrameMachine$Processor") (T := zT_P) (N := 11) hx hb ht zi_P zt_P zto_P zn_P hown hK hP hD hS 0 rfl rfl 5 (by decide) (ht _ (zw_in kw_262 rfl)) (fun _ h9 => h9) rfl hin rfl (by decide +kernel) rfl rfl (Nat.le_of_ble_eq_true rfl) kd_P_init_47 (fun H locs hP hD hS => ?_)
  have hP : va_P D zq_cl [(h0, .inr (6, [.ref a1, .ref a2, .ref a3, .ref a4, .ref q5, .ref q37, .null, .int 0, .int 0, .int 0, .int 0])), (q5, .inr (7, [.int 0, .int 0, .int 0, .int 0, .int 0, .int 0])), (q37, .inr (8, [.ref a1, .ref a2, .ref a3, .int 0, .int 0, .int 0, .int 0, .int 0]))] H := hP
  have hD : va_D A [(h0, .inr (6, [.ref a1, .ref a2, .ref a3, .ref a4, .ref q5, .ref q37, .null, .int 0, .int 0, .int 0, .int 0])), (q5, .inr (7, [.int 0, .int 0, .int 0, .int 0, .int 0, .int 0])), (q37, .inr (8, [.ref a1, .ref a2, .ref a3, .int 0, .int 0, .int 0, .int 0, .int 0]))] := hD
  refine lv_aload_n hx hb kd_P_init_50 rfl (lv_at hl 0 rfl) ?_
  refine va_new (ci := 9) (fs := [.null]) (C := "FrameMachine$Arithmetic") (T := zT_A) (N := 1) hx hb ht zi_A zt_A zto_A hown (ht _ (zw_in kw_247 rfl)) (ht _ (zw_in kw_248 rfl)) (ht _ (zw_in kw_10 rfl)) hK hP hD hS hA rfl (fun j hj => by rcases (show j = 0 by omega) with rfl <;> rfl) (Nat.le_of_ble_eq_true rfl) (Nat.le_of_ble_eq_true rfl) kd_P_init_51 (fun q51 H hP hD hS => ?_)
  have hP : va_P D zq_cl [(h0, .inr (6, [.ref a1, .ref a2, .ref a3, .ref a4, .ref q5, .ref q37, .null, .int 0, .int 0, .int 0, .int 0])), (q5, .inr (7, [.int 0, .int 0, .int 0, .int 0, .int 0, .int 0])), (q37, .inr (8, [.ref a1, .ref a2, .ref a3, .int 0, .int 0, .int 0, .int 0, .int 0])), (q51, .inr (9, [.null]))] H := hP
  have hD : va_D A [(h0, .inr (6, [.ref a1, .ref a2, .ref a3, .ref a4, .ref q5, .ref q37, .null, .int 0, .int 0, .int 0, .int 0])), (q5, .inr (7, [.int 0, .int 0, .int 0, .int 0, .int 0, .int 0])), (q37, .inr (8, [.ref a1, .ref a2, .ref a3, .int 0, .int 0, .int 0, .int 0, .int 0])), (q51, .inr (9, [.null]))] := hD
  refine W.widen (k := 3) (n := 15) (by omega) (by omega) ?_
  refine lv_dup hx hb kd_P_init_54 rfl ?_
  refine lv_aload_n hx hb kd_P_init_55 rfl (lv_at hl 2 rfl) ?_
  have hPc := hP.sub (ws' := [(q51, .inr (9, [.null]))]) [3] rfl
  have hDc := hD.sub (ws' := [(q51, .inr (9, [.null]))]) [3] (by decide) rfl
  have hKc := hK.sub (tys' := []) [] rfl
  have hFc := va_free (wc := [(q51, .inr (9, [.null]))]) hD hS hA [3] rfl
  refine va_callv (va_runI (As := [.ref a2]) (rest := [.ref q51, .ref h0]) ⟨hx, hb, hml, hown, ht⟩ (c_A_init l D q51 a2 H.size) (cwI 1 ht (zg_tail kw_251) rfl rfl rfl (ht _ (zw_in kw_10 rfl)) (ht _ (zw_in kw_249 rfl)) (ht _ (zw_in kw_250 rfl)) rfl (by decide +kernel) ⟨Nat.le_of_ble_eq_true rfl, Nat.le_of_ble_eq_true rfl⟩) ⟨fun a U g mk q => by obtain ⟨q0, q1, qP, qK, qD, qN⟩ := q; exact ⟨q0, q1, qP, va_K.moved (u := U) (U := U.calling g mk a) (Vm.Alike.refl U.vm) qK, qD, zw_N.same (u := U) (U := U.calling g mk a) rfl qN⟩, fun U hU hW => ⟨rfl, by rw [hU], by rw [hU]; exact hPc, va_K.moved hW.alike hKc, hDc.weaken (fun _ _ _ _ => trivial), zw_N.warm hW hN⟩⟩ rfl rfl hl.1 rfl (lv_room (Nat.le_of_ble_eq_true rfl)) kd_P_init_56 ⟨Nat.le_of_ble_eq_true rfl, Nat.le_of_ble_eq_true rfl⟩) hS (fun q _ h => hFc q h) hFc (fun u56 t H1 locs ht1 hvm h5 hB hz1 hk1 hS => ?_)
  obtain ⟨hP1, hK1, hD1⟩ := hB
  rw [ht1] at hP1
  have hK1 := va_K.moved hvm.symm hK1
  obtain ⟨hP, hD⟩ := va_join (wr := [(h0, .inr (6, [.ref a1, .ref a2, .ref a3, .ref a4, .ref q5, .ref q37, .null, .int 0, .int 0, .int 0, .int 0])), (q5, .inr (7, [.int 0, .int 0, .int 0, .int 0, .int 0, .int 0])), (q37, .inr (8, [.ref a1, .ref a2, .ref a3, .int 0, .int 0, .int 0, .int 0, .int 0]))]) (w1 := [(q51, .inr (9, [.ref a2]))]) hP hD [3] [0, 1, 2] rfl rfl (by decide) (by decide) hk1 hFc hP1 hD1
  have hK := hK.app hK1
  generalize H1 = H at hP hS ⊢
  have hK : va_K D zq_cl [] s := hK
  have hP : va_P D zq_cl [(h0, .inr (6, [.ref a1, .ref a2, .ref a3, .ref a4, .ref q5, .ref q37, .null, .int 0, .int 0, .int 0, .int 0])), (q5, .inr (7, [.int 0, .int 0, .int 0, .int 0, .int 0, .int 0])), (q37, .inr (8, [.ref a1, .ref a2, .ref a3, .int 0, .int 0, .int 0, .int 0, .int 0])), (q51, .inr (9, [.ref a2]))] H := hP
  have hD : va_D A [(h0, .inr (6, [.ref a1, .ref a2, .ref a3, .ref a4, .ref q5, .ref q37, .null, .int 0, .int 0, .int 0, .int 0])), (q5, .inr (7, [.int 0, .int 0, .int 0, .int 0, .int 0, .int 0])), (q37, .inr (8, [.ref a1, .ref a2, .ref a3, .int 0, .int 0, .int 0, .int 0, .int 0])), (q51, .inr (9, [.ref a2]))] := hD
  refine W.widen (k := 3) (n := 15) (by omega) (by omega) ?_
  refine va_putF (D := D) (ci := 6) (v := .ref q51) (ty := (.object "FrameMachine$Arithmetic")) (C := "FrameMachine$Processor") (T := zT_P) (N := 11) hx hb ht zi_P zt_P zto_P zn_P hown hK hP hD hS 0 rfl rfl 6 (by decide) (ht _ (zw_in kw_263 rfl)) (fun _ h9 => h9) rfl hin rfl (by decide +kernel) rfl rfl (Nat.le_of_ble_eq_true rfl) kd_P_init_59 (fun H locs hP hD hS => ?_)
  have hP : va_P D zq_cl [(h0, .inr (6, [.ref a1, .ref a2, .ref a3, .ref a4, .ref q5, .ref q37, .ref q51, .int 0, .int 0, .int 0, .int 0])), (q5, .inr (7, [.int 0, .int 0, .int 0, .int 0, .int 0, .int 0])), (q37, .inr (8, [.ref a1, .ref a2, .ref a3, .int 0, .int 0, .int 0, .int 0, .int 0])), (q51, .inr (9, [.ref a2]))] H := hP
  have hD : va_D A [(h0, .inr (6, [.ref a1, .ref a2, .ref a3, .ref a4, .ref q5, .ref q37, .ref q51, .int 0, .int 0, .int 0, .int 0])), (q5, .inr (7, [.int 0, .int 0, .int 0, .int 0, .int 0, .int 0])), (q37, .inr (8, [.ref a1, .ref a2, .ref a3, .int 0, .int 0, .int 0, .int 0, .int 0])), (q51, .inr (9, [.ref a2]))] := hD
  exact W.vret hx hb hr (fun t ht2 hW => ⟨⟨(q5, q37, q51), rfl, trivial, (by show va_P _ _ _ t.heap; rw [ht2]; exact hP), va_K.moved hW.alike hK, hD⟩, hS.F ht2⟩) hS.2.2 kd_P_init_62 (hlocks := hlocks)
abbrev b_F_init : ByteArray := prog_1_method_1_code
def y_F_init : MethodName := ⟨"FrameMachine", "<init>", "()V"⟩
theorem kd_F_init_0 : decode b_F_init 0 = .ok (.aload_n 0, 1) := by decide +kernel
theorem kd_F_init_1 : decode b_F_init 1 = .ok (.invokespecial 3, 3) := by decide +kernel
theorem kd_F_init_4 : decode b_F_init 4 = .ok (.aload_n 0, 1) := by decide +kernel
theorem kd_F_init_5 : decode b_F_init 5 = .ok (.new 9, 3) := by decide +kernel
theorem kd_F_init_8 : decode b_F_init 8 = .ok (.dup, 1) := by decide +kernel
theorem kd_F_init_9 : decode b_F_init 9 = .ok (.invokespecial 11, 3) := by decide +kernel
theorem kd_F_init_12 : decode b_F_init 12 = .ok (.putfield 12, 3) := by decide +kernel
theorem kd_F_init_15 : decode b_F_init 15 = .ok (.aload_n 0, 1) := by decide +kernel
theorem kd_F_init_16 : decode b_F_init 16 = .ok (.new 16, 3) := by decide +kernel
theorem kd_F_init_19 : decode b_F_init 19 = .ok (.dup, 1) := by decide +kernel
theorem kd_F_init_20 : decode b_F_init 20 = .ok (.aload_n 0, 1) := by decide +kernel
theorem kd_F_init_21 : decode b_F_init 21 = .ok (.getfield 12, 3) := by decide +kernel
theorem kd_F_init_24 : decode b_F_init 24 = .ok (.invokespecial 18, 3) := by decide +kernel
theorem kd_F_init_27 : decode b_F_init 27 = .ok (.putfield 21, 3) := by decide +kernel
theorem kd_F_init_30 : decode b_F_init 30 = .ok (.aload_n 0, 1) := by decide +kernel
theorem kd_F_init_31 : decode b_F_init 31 = .ok (.new 25, 3) := by decide +kernel
theorem kd_F_init_34 : decode b_F_init 34 = .ok (.dup, 1) := by decide +kernel
theorem kd_F_init_35 : decode b_F_init 35 = .ok (.invokespecial 27, 3) := by decide +kernel
theorem kd_F_init_38 : decode b_F_init 38 = .ok (.putfield 28, 3) := by decide +kernel
theorem kd_F_init_41 : decode b_F_init 41 = .ok (.new 32, 3) := by decide +kernel
theorem kd_F_init_44 : decode b_F_init 44 = .ok (.dup, 1) := by decide +kernel
theorem kd_F_init_45 : decode b_F_init 45 = .ok (.aload_n 0, 1) := by decide +kernel
theorem kd_F_init_46 : decode b_F_init 46 = .ok (.getfield 21, 3) := by decide +kernel
theorem kd_F_init_49 : decode b_F_init 49 = .ok (.aload_n 0, 1) := by decide +kernel
theorem kd_F_init_50 : decode b_F_init 50 = .ok (.getfield 28, 3) := by decide +kernel
theorem kd_F_init_53 : decode b_F_init 53 = .ok (.invokespecial 34, 3) := by decide +kernel
theorem kd_F_init_56 : decode b_F_init 56 = .ok (.astore_n 1, 1) := by decide +kernel
theorem kd_F_init_57 : decode b_F_init 57 = .ok (.aload_n 0, 1) := by decide +kernel
theorem kd_F_init_58 : decode b_F_init 58 = .ok (.new 37, 3) := by decide +kernel
theorem kd_F_init_61 : decode b_F_init 61 = .ok (.dup, 1) := by decide +kernel
theorem kd_F_init_62 : decode b_F_init 62 = .ok (.aload_n 0, 1) := by decide +kernel
theorem kd_F_init_63 : decode b_F_init 63 = .ok (.getfield 21, 3) := by decide +kernel
theorem kd_F_init_66 : decode b_F_init 66 = .ok (.aload_n 0, 1) := by decide +kernel
theorem kd_F_init_67 : decode b_F_init 67 = .ok (.getfield 28, 3) := by decide +kernel
theorem kd_F_init_70 : decode b_F_init 70 = .ok (.aload_n 1, 1) := by decide +kernel
theorem kd_F_init_71 : decode b_F_init 71 = .ok (.invokespecial 39, 3) := by decide +kernel
theorem kd_F_init_74 : decode b_F_init 74 = .ok (.putfield 42, 3) := by decide +kernel
theorem kd_F_init_77 : decode b_F_init 77 = .ok (.aload_n 0, 1) := by decide +kernel
theorem kd_F_init_78 : decode b_F_init 78 = .ok (.new 46, 3) := by decide +kernel
theorem kd_F_init_81 : decode b_F_init 81 = .ok (.dup, 1) := by decide +kernel
theorem kd_F_init_82 : decode b_F_init 82 = .ok (.aload_n 0, 1) := by decide +kernel
theorem kd_F_init_83 : decode b_F_init 83 = .ok (.getfield 21, 3) := by decide +kernel
theorem kd_F_init_86 : decode b_F_init 86 = .ok (.aload_n 0, 1) := by decide +kernel
theorem kd_F_init_87 : decode b_F_init 87 = .ok (.getfield 28, 3) := by decide +kernel
theorem kd_F_init_90 : decode b_F_init 90 = .ok (.aload_n 1, 1) := by decide +kernel
theorem kd_F_init_91 : decode b_F_init 91 = .ok (.aload_n 0, 1) := by decide +kernel
theorem kd_F_init_92 : decode b_F_init 92 = .ok (.getfield 42, 3) := by decide +kernel
theorem kd_F_init_95 : decode b_F_init 95 = .ok (.invokespecial 48, 3) := by decide +kernel
theorem kd_F_init_98 : decode b_F_init 98 = .ok (.putfield 51, 3) := by decide +kernel
theorem kd_F_init_101 : decode b_F_init 101 = .ok (.return_, 1) := by decide +kernel
theorem kw_21 : (Jvm.Cond.methodLink "FrameMachine" (3 : Nat) ({ cls := "java/lang/Object", name := "<init>", desc := "()V" } : Jvm.MethodName)) ∈ lw_tbl := zk_1 (List.mem_of_getElem? (i := 21) rfl)
theorem kw_24 : (Jvm.Cond.classLink "FrameMachine" (9 : Nat) "FrameMachine$Devices") ∈ lw_tbl := zk_1 (List.mem_of_getElem? (i := 24) rfl)
theorem kw_25 : (Jvm.Cond.instantiable "FrameMachine$Devices" (11 : Nat)) ∈ lw_tbl := zk_1 (List.mem_of_getElem? (i := 25) rfl)
theorem kw_28 : (Jvm.Cond.code ({ cls := "FrameMachine$Devices", name := "<init>", desc := "()V" } : Jvm.MethodName) prog_4_method_1_code (1 : Nat) (Option.none : Option Jvm.ClassFile.FieldType)) ∈ lw_tbl := zk_1 (List.mem_of_getElem? (i := 28) rfl)
theorem kw_26 : (Jvm.Cond.methodLinkNest "FrameMachine" (11 : Nat) ({ cls := "FrameMachine$Devices", name := "<init>", desc := "()V" } : Jvm.MethodName) "FrameMachine") ∈ lw_tbl := zk_1 (List.mem_of_getElem? (i := 26) rfl)
theorem kw_27 : (Jvm.Cond.instanceMethod ({ cls := "FrameMachine$Devices", name := "<init>", desc := "()V" } : Jvm.MethodName)) ∈ lw_tbl := zk_1 (List.mem_of_getElem? (i := 27) rfl)
theorem kw_67 : (Jvm.Cond.classLink "FrameMachine" (16 : Nat) "FrameMachine$Bus") ∈ lw_tbl := zk_1 (List.mem_of_getElem? (i := 67) rfl)
theorem kw_68 : (Jvm.Cond.instantiable "FrameMachine$Bus" (5 : Nat)) ∈ lw_tbl := zk_1 (List.mem_of_getElem? (i := 68) rfl)
theorem kw_71 : (Jvm.Cond.code ({ cls := "FrameMachine$Bus", name := "<init>", desc := "(LFrameMachine$Devices;)V" } : Jvm.MethodName) prog_3_method_1_code (2 : Nat) (Option.none : Option Jvm.ClassFile.FieldType)) ∈ lw_tbl := zk_1 (List.mem_of_getElem? (i := 71) rfl)
theorem kw_69 : (Jvm.Cond.methodLink "FrameMachine" (18 : Nat) ({ cls := "FrameMachine$Bus", name := "<init>", desc := "(LFrameMachine$Devices;)V" } : Jvm.MethodName)) ∈ lw_tbl := zk_1 (List.mem_of_getElem? (i := 69) rfl)
theorem kw_70 : (Jvm.Cond.instanceMethod ({ cls := "FrameMachine$Bus", name := "<init>", desc := "(LFrameMachine$Devices;)V" } : Jvm.MethodName)) ∈ lw_tbl := zk_1 (List.mem_of_getElem? (i := 70) rfl)
theorem kw_96 : (Jvm.Cond.classLink "FrameMachine" (25 : Nat) "FrameMachine$Registers") ∈ lw_tbl := zk_1 (List.mem_of_getElem? (i := 96) rfl)
theorem kw_97 : (Jvm.Cond.instantiable "FrameMachine$Registers" (5 : Nat)) ∈ lw_tbl := zk_1 (List.mem_of_getElem? (i := 97) rfl)
theorem kw_100 : (Jvm.Cond.code ({ cls := "FrameMachine$Registers", name := "<init>", desc := "()V" } : Jvm.MethodName) prog_10_method_1_code (1 : Nat) (Option.none : Option Jvm.ClassFile.FieldType)) ∈ lw_tbl := zk_1 (List.mem_of_getElem? (i := 100) rfl)
theorem kw_98 : (Jvm.Cond.methodLinkNest "FrameMachine" (27 : Nat) ({ cls := "FrameMachine$Registers", name := "<init>", desc := "()V" } : Jvm.MethodName) "FrameMachine") ∈ lw_tbl := zk_1 (List.mem_of_getElem? (i := 98) rfl)
theorem kw_99 : (Jvm.Cond.instanceMethod ({ cls := "FrameMachine$Registers", name := "<init>", desc := "()V" } : Jvm.MethodName)) ∈ lw_tbl := zk_1 (List.mem_of_getElem? (i := 99) rfl)
theorem kw_133 : (Jvm.Cond.classLink "FrameMachine" (32 : Nat) "FrameMachine$Pointers") ∈ lw_tbl := zk_1 (List.mem_of_getElem? (i := 133) rfl)
theorem kw_134 : (Jvm.Cond.instantiable "FrameMachine$Pointers" (2 : Nat)) ∈ lw_tbl := zk_1 (List.mem_of_getElem? (i := 134) rfl)
theorem kw_137 : (Jvm.Cond.code ({ cls := "FrameMachine$Pointers", name := "<init>", desc := "(LFrameMachine$Bus;LFrameMachine$Registers;)V" } : Jvm.MethodName) prog_8_method_1_code (3 : Nat) (Option.none : Option Jvm.ClassFile.FieldType)) ∈ lw_tbl := zk_1 (List.mem_of_getElem? (i := 137) rfl)
theorem kw_135 : (Jvm.Cond.methodLink "FrameMachine" (34 : Nat) ({ cls := "FrameMachine$Pointers", name := "<init>", desc := "(LFrameMachine$Bus;LFrameMachine$Registers;)V" } : Jvm.MethodName)) ∈ lw_tbl := zk_1 (List.mem_of_getElem? (i := 135) rfl)
theorem kw_136 : (Jvm.Cond.instanceMethod ({ cls := "FrameMachine$Pointers", name := "<init>", desc := "(LFrameMachine$Bus;LFrameMachine$Registers;)V" } : Jvm.MethodName)) ∈ lw_tbl := zk_1 (List.mem_of_getElem? (i := 136) rfl)
theorem kw_146 : (Jvm.Cond.classLink "FrameMachine" (37 : Nat) "FrameMachine$Exceptions") ∈ lw_tbl := zk_1 (List.mem_of_getElem? (i := 146) rfl)
theorem kw_147 : (Jvm.Cond.instantiable "FrameMachine$Exceptions" (6 : Nat)) ∈ lw_tbl := zk_1 (List.mem_of_getElem? (i := 147) rfl)
theorem kw_150 : (Jvm.Cond.code ({ cls := "FrameMachine$Exceptions", name := "<init>", desc := "(LFrameMachine$Bus;LFrameMachine$Registers;LFrameMachine$Pointers;)V" } : Jvm.MethodName) prog_5_method_1_code (4 : Nat) (Option.none : Option Jvm.ClassFile.FieldType)) ∈ lw_tbl := zk_1 (List.mem_of_getElem? (i := 150) rfl)
theorem kw_148 : (Jvm.Cond.methodLink "FrameMachine" (39 : Nat) ({ cls := "FrameMachine$Exceptions", name := "<init>", desc := "(LFrameMachine$Bus;LFrameMachine$Registers;LFrameMachine$Pointers;)V" } : Jvm.MethodName)) ∈ lw_tbl := zk_1 (List.mem_of_getElem? (i := 148) rfl)
theorem kw_149 : (Jvm.Cond.instanceMethod ({ cls := "FrameMachine$Exceptions", name := "<init>", desc := "(LFrameMachine$Bus;LFrameMachine$Registers;LFrameMachine$Pointers;)V" } : Jvm.MethodName)) ∈ lw_tbl := zk_1 (List.mem_of_getElem? (i := 149) rfl)
theorem kw_175 : (Jvm.Cond.classLink "FrameMachine" (46 : Nat) "FrameMachine$Processor") ∈ lw_tbl := zk_1 (List.mem_of_getElem? (i := 175) rfl)
theorem kw_176 : (Jvm.Cond.instantiable "FrameMachine$Processor" (11 : Nat)) ∈ lw_tbl := zk_1 (List.mem_of_getElem? (i := 176) rfl)
theorem kw_179 : (Jvm.Cond.code ({ cls := "FrameMachine$Processor", name := "<init>", desc := "(LFrameMachine$Bus;LFrameMachine$Registers;LFrameMachine$Pointers;LFrameMachine$Exceptions;)V" } : Jvm.MethodName) prog_9_method_1_code (5 : Nat) (Option.none : Option Jvm.ClassFile.FieldType)) ∈ lw_tbl := zk_1 (List.mem_of_getElem? (i := 179) rfl)
theorem kw_177 : (Jvm.Cond.methodLink "FrameMachine" (48 : Nat) ({ cls := "FrameMachine$Processor", name := "<init>", desc := "(LFrameMachine$Bus;LFrameMachine$Registers;LFrameMachine$Pointers;LFrameMachine$Exceptions;)V" } : Jvm.MethodName)) ∈ lw_tbl := zk_1 (List.mem_of_getElem? (i := 177) rfl)
theorem kw_178 : (Jvm.Cond.instanceMethod ({ cls := "FrameMachine$Processor", name := "<init>", desc := "(LFrameMachine$Bus;LFrameMachine$Registers;LFrameMachine$Pointers;LFrameMachine$Exceptions;)V" } : Jvm.MethodName)) ∈ lw_tbl := zk_1 (List.mem_of_getElem? (i := 178) rfl)
def zp_F_init (h0 : Nat)  (u : Nat × Nat × Nat × Nat × Nat × Nat × Nat × Nat × Nat × Nat × Nat × Nat × Nat × Nat × Nat × Nat × Nat) : va_W := [(h0, .inr (0, [.ref u.1, .ref u.2.2.2.1, .ref u.2.2.2.2.2.2.1, .ref u.2.2.2.2.2.2.2.2.2.2.2.2.1, .ref u.2.2.2.2.2.2.2.2.2.2.2.2.2.1])), (u.1, .inr (1, [.int 256, .int 256, .int 0, .int 0, .int 0, .int 0, .int 0, .int 0, .int 0, .int 0, .ref u.2.1])), (u.2.1, .inl (u.2.2.1, 16, .inl (fun _ => 0))), (u.2.2.2.1, .inr (2, [.ref u.2.2.2.2.1, .ref u.1, .int 0, .int 0, .int 0])), (u.2.2.2.2.1, .inl (u.2.2.2.2.2.1, 1024, .inl (fun _ => 0))), (u.2.2.2.2.2.2.1, .inr (3, [.ref u.2.2.2.2.2.2.2.1, .ref u.2.2.2.2.2.2.2.2.2.1, .int 0, .int 0, .int 9984])), (u.2.2.2.2.2.2.2.1, .inl (u.2.2.2.2.2.2.2.2.1, 8, .inl (fun _ => 0))), (u.2.2.2.2.2.2.2.2.2.1, .inl (u.2.2.2.2.2.2.2.2.2.2.1, 8, .inl (fun _ => 0))), (u.2.2.2.2.2.2.2.2.2.2.2.1, .inr (4, [.ref u.2.2.2.1, .ref u.2.2.2.2.2.2.1])), (u.2.2.2.2.2.2.2.2.2.2.2.2.1, .inr (5, [.ref u.2.2.2.1, .ref u.2.2.2.2.2.2.1, .ref u.2.2.2.2.2.2.2.2.2.2.2.1, .int 0, .int 0, .int 0])), (u.2.2.2.2.2.2.2.2.2.2.2.2.2.1, .inr (6, [.ref u.2.2.2.1, .ref u.2.2.2.2.2.2.1, .ref u.2.2.2.2.2.2.2.2.2.2.2.1, .ref u.2.2.2.2.2.2.2.2.2.2.2.2.1, .ref u.2.2.2.2.2.2.2.2.2.2.2.2.2.2.1, .ref u.2.2.2.2.2.2.2.2.2.2.2.2.2.2.2.1, .ref u.2.2.2.2.2.2.2.2.2.2.2.2.2.2.2.2, .int 0, .int 0, .int 0, .int 0])), (u.2.2.2.2.2.2.2.2.2.2.2.2.2.2.1, .inr (7, [.int 0, .int 0, .int 0, .int 0, .int 0, .int 0])), (u.2.2.2.2.2.2.2.2.2.2.2.2.2.2.2.1, .inr (8, [.ref u.2.2.2.1, .ref u.2.2.2.2.2.2.1, .ref u.2.2.2.2.2.2.2.2.2.2.2.1, .int 0, .int 0, .int 0, .int 0, .int 0])), (u.2.2.2.2.2.2.2.2.2.2.2.2.2.2.2.2, .inr (9, [.ref u.2.2.2.2.2.2.1]))]
def zq_F_init (u : Nat × Nat × Nat × Nat × Nat × Nat × Nat × Nat × Nat × Nat × Nat × Nat × Nat × Nat × Nat × Nat × Nat) : List (ClassId × FieldType) := [(u.2.2.1, .int), (u.2.2.2.2.2.1, .byte), (u.2.2.2.2.2.2.2.2.1, .int), (u.2.2.2.2.2.2.2.2.2.2.1, .int)]
theorem c_F_init (l : Launch) (D : va_G) (h0 : Nat)  (sz : Nat) : Met l y_F_init (Cond.code y_F_init b_F_init 2 none :: zw_w) ({ frames := 3, cells := 13, slots := 1111, locals := 59 }) (va_Pc [.ref h0] (fun U => U.heap.size = sz ∧ va_P D zq_cl [(h0, .inr (0, [.null, .null, .null, .null, .null]))] U.heap ∧ va_K D zq_cl [] U ∧ va_D (fun _ => True) [(h0, .inr (0, [.null, .null, .null, .null, .null]))] ∧ zw_N U)) (va_Qv (fun _ : Nat × Nat × Nat × Nat × Nat × Nat × Nat × Nat × Nat × Nat × Nat × Nat × Nat × Nat × Nat × Nat × Nat => True) (fun u t => va_P D zq_cl (zp_F_init h0  u) t.heap ∧ va_K D zq_cl (zq_F_init u) t ∧ va_D (va_A [(h0, .inr (0, [.null, .null, .null, .null, .null]))] sz) (zp_F_init h0  u)) (va_A [(h0, .inr (0, [.null, .null, .null, .null, .null]))] sz)) 13 1111 (va_A [(h0, .inr (0, [.null, .null, .null, .null, .null]))] sz) := by
  refine Met.ofW (cc := b_F_init) (maxL := 2) (ret := none) (by decide +kernel) rfl ?_
  intro p e s m args below meth c s₁ B hml hv
  obtain ⟨rfl, hsz, hP, hK, hD0, hN⟩ := hv
  have hx := B.exec
  have hb := B.bytes
  have hr := B.returns
  have hts := atoms_spec (ws := Cond.code y_F_init b_F_init 2 none :: zw_w) B.pre
  have ht : ∀ w ∈ zw_w, w.before _ s = true := fun w hw => hts w (List.mem_cons_of_mem _ hw)
  have hown : s.vm.findClass "FrameMachine" = some m.cls := findClass_of_methodNamed B.named
  have hlocks := B.notSynchronized
  have hin : meth.name = "<init>" := (name_of_methodNamed B.named B.method).1
  subst hsz
  have hD := hD0.self (sz := s.heap.size)
  generalize hAe : va_A [(h0, .inr (0, [.null, .null, .null, .null, .null]))] s.heap.size = A at hD ⊢
  have hA : ∀ q : Nat, s.heap.size ≤ q → A q := fun q h => by rw [← hAe]; exact Or.inr h
  have hS : va_S A s.heap s.heap [] := va_S.rf
  have hl := lv_entry ([.ref h0]) (n := 2) (Nat.le_of_ble_eq_true rfl)
  rw [lg_entry_eq]
  generalize (lg_sl ([.ref h0]) ++ List.replicate (2 - (lg_sl ([.ref h0])).length) Slot.unset).toArray = ls at hl ⊢
  have hl : lv_has ls 2 [(0, .ref h0)] := hl
  refine lv_aload_n hx hb kd_F_init_0 rfl (lv_at hl 0 rfl) ?_
  refine W.objInit hx hb hown (ht _ (zw_in kw_21 rfl)) (ht _ (zw_in kw_22 rfl)) (ht _ (zw_in kw_23 rfl)) rfl (by rw [hml]; exact hl.1) rfl kd_F_init_1 (Nat.le_of_ble_eq_true rfl) (Nat.le_of_ble_eq_true rfl) ?_
  refine W.eq (g2 := F0 m 4 ls []) rfl ?_
  refine lv_aload_n hx hb kd_F_init_4 rfl (lv_at hl 0 rfl) ?_
  refine va_new (ci := 1) (fs := [.int 0, .int 0, .int 0, .int 0, .int 0, .int 0, .int 0, .int 0, .int 0, .int 0, .null]) (C := "FrameMachine$Devices") (T := zT_D) (N := 11) hx hb ht zi_D zt_D zto_D hown (ht _ (zw_in kw_24 rfl)) (ht _ (zw_in kw_25 rfl)) (ht _ (zw_in kw_2 rfl)) hK hP hD hS hA rfl (fun j hj => by rcases (show j = 0 ∨ j = 1 ∨ j = 2 ∨ j = 3 ∨ j = 4 ∨ j = 5 ∨ j = 6 ∨ j = 7 ∨ j = 8 ∨ j = 9 ∨ j = 10 by omega) with rfl | rfl | rfl | rfl | rfl | rfl | rfl | rfl | rfl | rfl | rfl <;> rfl) (Nat.le_of_ble_eq_true rfl) (Nat.le_of_ble_eq_true rfl) kd_F_init_5 (fun q5 H hP hD hS => ?_)
  have hP : va_P D zq_cl [(h0, .inr (0, [.null, .null, .null, .null, .null])), (q5, .inr (1, [.int 0, .int 0, .int 0, .int 0, .int 0, .int 0, .int 0, .int 0, .int 0, .int 0, .null]))] H := hP
  have hD : va_D A [(h0, .inr (0, [.null, .null, .null, .null, .null])), (q5, .inr (1, [.int 0, .int 0, .int 0, .int 0, .int 0, .int 0, .int 0, .int 0, .int 0, .int 0, .null]))] := hD
  refine W.widen (k := 1) (n := 11) (by omega) (by omega) ?_
  refine lv_dup hx hb kd_F_init_8 rfl ?_
  have hPc := hP.sub (ws' := [(q5, .inr (1, [.int 0, .int 0, .int 0, .int 0, .int 0, .int 0, .int 0, .int 0, .int 0, .int 0, .null]))]) [1] rfl
  have hDc := hD.sub (ws' := [(q5, .inr (1, [.int 0, .int 0, .int 0, .int 0, .int 0, .int 0, .int 0, .int 0, .int 0, .int 0, .null]))]) [1] (by decide) rfl
  have hKc := hK.sub (tys' := []) [] rfl
  have hFc := va_free (wc := [(q5, .inr (1, [.int 0, .int 0, .int 0, .int 0, .int 0, .int 0, .int 0, .int 0, .int 0, .int 0, .null]))]) hD hS hA [1] rfl
  refine va_callv (va_runIN (As := []) (rest := [.ref q5, .ref h0]) ⟨hx, hb, hml, hown, ht⟩ (c_D_init l D q5  H.size) ⟨va_cnB 0 ht (zg_tail kw_28) rfl rfl rfl (hN _ (zw_inN kw_26 rfl)) (ht _ (zw_in kw_2 rfl)) (by decide +kernel) ⟨Nat.le_of_ble_eq_true rfl, Nat.le_of_ble_eq_true rfl⟩, rfl, (ht _ (zw_in kw_27 rfl))⟩ ⟨fun a U g mk q => by obtain ⟨q0, q1, qP, qK, qD, qN⟩ := q; exact ⟨q0, q1, qP, va_K.moved (u := U) (U := U.calling g mk a) (Vm.Alike.refl U.vm) qK, qD, zw_N.same (u := U) (U := U.calling g mk a) rfl qN⟩, fun U hU hW => ⟨rfl, by rw [hU], by rw [hU]; exact hPc, va_K.moved hW.alike hKc, hDc.weaken (fun _ _ _ _ => trivial), zw_N.warm hW hN⟩⟩ rfl rfl hl.1 rfl (lv_room (Nat.le_of_ble_eq_true rfl)) kd_F_init_9 ⟨Nat.le_of_ble_eq_true rfl, Nat.le_of_ble_eq_true rfl⟩) hS (fun q _ h => hFc q h) hFc (fun u9 t H1 locs ht1 hvm h5 hB hz1 hk1 hS => ?_)
  obtain ⟨hP1, hK1, hD1⟩ := hB
  rw [ht1] at hP1
  have hK1 := va_K.moved hvm.symm hK1
  obtain ⟨hP, hD⟩ := va_join (wr := [(h0, .inr (0, [.null, .null, .null, .null, .null]))]) (w1 := [(q5, .inr (1, [.int 256, .int 256, .int 0, .int 0, .int 0, .int 0, .int 0, .int 0, .int 0, .int 0, .ref u9.1])), (u9.1, .inl (u9.2, 16, .inl (fun _ => 0)))]) hP hD [1] [0] rfl rfl (by decide) (by decide) hk1 hFc hP1 hD1
  have hK := hK.app hK1
  generalize H1 = H at hP hS ⊢
  have hK : va_K D zq_cl [(u9.2, .int)] s := hK
  have hP : va_P D zq_cl [(h0, .inr (0, [.null, .null, .null, .null, .null])), (q5, .inr (1, [.int 256, .int 256, .int 0, .int 0, .int 0, .int 0, .int 0, .int 0, .int 0, .int 0, .ref u9.1])), (u9.1, .inl (u9.2, 16, .inl (fun _ => 0)))] H := hP
  have hD : va_D A [(h0, .inr (0, [.null, .null, .null, .null, .null])), (q5, .inr (1, [.int 256, .int 256, .int 0, .int 0, .int 0, .int 0, .int 0, .int 0, .int 0, .int 0, .ref u9.1])), (u9.1, .inl (u9.2, 16, .inl (fun _ => 0)))] := hD
  refine W.widen (k := 2) (n := 27) (by omega) (by omega) ?_
  refine va_putF (D := D) (ci := 0) (v := .ref q5) (ty := (.object "FrameMachine$Devices")) (C := "FrameMachine") (T := zT_F) (N := 5) hx hb ht zi_F zt_F zto_F zn_F hown hK hP hD hS 0 rfl rfl 0 (by decide) (ht _ (zw_in kw_293 rfl)) (fun _ h9 => h9) rfl hin rfl (by decide +kernel) rfl rfl (Nat.le_of_ble_eq_true rfl) kd_F_init_12 (fun H locs hP hD hS => ?_)
  have hP : va_P D zq_cl [(h0, .inr (0, [.ref q5, .null, .null, .null, .null])), (q5, .inr (1, [.int 256, .int 256, .int 0, .int 0, .int 0, .int 0, .int 0, .int 0, .int 0, .int 0, .ref u9.1])), (u9.1, .inl (u9.2, 16, .inl (fun _ => 0)))] H := hP
  have hD : va_D A [(h0, .inr (0, [.ref q5, .null, .null, .null, .null])), (q5, .inr (1, [.int 256, .int 256, .int 0, .int 0, .int 0, .int 0, .int 0, .int 0, .int 0, .int 0, .ref u9.1])), (u9.1, .inl (u9.2, 16, .inl (fun _ => 0)))] := hD
  refine lv_aload_n hx hb kd_F_init_15 rfl (lv_at hl 0 rfl) ?_
  refine va_new (ci := 2) (fs := [.null, .null, .int 0, .int 0, .int 0]) (C := "FrameMachine$Bus") (T := zT_B) (N := 5) hx hb ht zi_B zt_B zto_B hown (ht _ (zw_in kw_67 rfl)) (ht _ (zw_in kw_68 rfl)) (ht _ (zw_in kw_3 rfl)) hK hP hD hS hA rfl (fun j hj => by rcases (show j = 0 ∨ j = 1 ∨ j = 2 ∨ j = 3 ∨ j = 4 by omega) with rfl | rfl | rfl | rfl | rfl <;> rfl) (Nat.le_of_ble_eq_true rfl) (Nat.le_of_ble_eq_true rfl) kd_F_init_16 (fun q16 H hP hD hS => ?_)
  have hP : va_P D zq_cl [(h0, .inr (0, [.ref q5, .null, .null, .null, .null])), (q5, .inr (1, [.int 256, .int 256, .int 0, .int 0, .int 0, .int 0, .int 0, .int 0, .int 0, .int 0, .ref u9.1])), (u9.1, .inl (u9.2, 16, .inl (fun _ => 0))), (q16, .inr (2, [.null, .null, .int 0, .int 0, .int 0]))] H := hP
  have hD : va_D A [(h0, .inr (0, [.ref q5, .null, .null, .null, .null])), (q5, .inr (1, [.int 256, .int 256, .int 0, .int 0, .int 0, .int 0, .int 0, .int 0, .int 0, .int 0, .ref u9.1])), (u9.1, .inl (u9.2, 16, .inl (fun _ => 0))), (q16, .inr (2, [.null, .null, .int 0, .int 0, .int 0]))] := hD
  refine W.widen (k := 3) (n := 32) (by omega) (by omega) ?_
  refine lv_dup hx hb kd_F_init_19 rfl ?_
  refine lv_aload_n hx hb kd_F_init_20 rfl (lv_at hl 0 rfl) ?_
  refine va_get (D := D) (ci := 0) (v := .ref q5) (C := "FrameMachine") (T := zT_F) (N := 5) hx hb ht zi_F hown hK hP 0 rfl rfl 0 (by decide) (ht _ (zw_in kw_293 rfl)) (fun _ h9 => h9) rfl kd_F_init_21 ?_
  have hPc := hP.sub (ws' := [(q16, .inr (2, [.null, .null, .int 0, .int 0, .int 0]))]) [3] rfl
  have hDc := hD.sub (ws' := [(q16, .inr (2, [.null, .null, .int 0, .int 0, .int 0]))]) [3] (by decide) rfl
  have hKc := hK.sub (tys' := []) [] rfl
  have hFc := va_free (wc := [(q16, .inr (2, [.null, .null, .int 0, .int 0, .int 0]))]) hD hS hA [3] rfl
  refine va_callv (va_runI (As := [.ref q5]) (rest := [.ref q16, .ref h0]) ⟨hx, hb, hml, hown, ht⟩ (c_B_init l D q16 q5 H.size) (cwI 1 ht (zg_tail kw_71) rfl rfl rfl (ht _ (zw_in kw_3 rfl)) (ht _ (zw_in kw_69 rfl)) (ht _ (zw_in kw_70 rfl)) rfl (by decide +kernel) ⟨Nat.le_of_ble_eq_true rfl, Nat.le_of_ble_eq_true rfl⟩) ⟨fun a U g mk q => by obtain ⟨q0, q1, qP, qK, qD, qN⟩ := q; exact ⟨q0, q1, qP, va_K.moved (u := U) (U := U.calling g mk a) (Vm.Alike.refl U.vm) qK, qD, zw_N.same (u := U) (U := U.calling g mk a) rfl qN⟩, fun U hU hW => ⟨rfl, by rw [hU], by rw [hU]; exact hPc, va_K.moved hW.alike hKc, hDc.weaken (fun _ _ _ _ => trivial), zw_N.warm hW hN⟩⟩ rfl rfl hl.1 rfl (lv_room (Nat.le_of_ble_eq_true rfl)) kd_F_init_24 ⟨Nat.le_of_ble_eq_true rfl, Nat.le_of_ble_eq_true rfl⟩) hS (fun q _ h => hFc q h) hFc (fun u24 t H1 locs ht1 hvm h5 hB hz1 hk1 hS => ?_)
  obtain ⟨hP1, hK1, hD1⟩ := hB
  rw [ht1] at hP1
  have hK1 := va_K.moved hvm.symm hK1
  obtain ⟨hP, hD⟩ := va_join (wr := [(h0, .inr (0, [.ref q5, .null, .null, .null, .null])), (q5, .inr (1, [.int 256, .int 256, .int 0, .int 0, .int 0, .int 0, .int 0, .int 0, .int 0, .int 0, .ref u9.1])), (u9.1, .inl (u9.2, 16, .inl (fun _ => 0)))]) (w1 := [(q16, .inr (2, [.ref u24.1, .ref q5, .int 0, .int 0, .int 0])), (u24.1, .inl (u24.2, 1024, .inl (fun _ => 0)))]) hP hD [3] [0, 1, 2] rfl rfl (by decide) (by decide) hk1 hFc hP1 hD1
  have hK := hK.app hK1
  generalize H1 = H at hP hS ⊢
  have hK : va_K D zq_cl [(u9.2, .int), (u24.2, .byte)] s := hK
  have hP : va_P D zq_cl [(h0, .inr (0, [.ref q5, .null, .null, .null, .null])), (q5, .inr (1, [.int 256, .int 256, .int 0, .int 0, .int 0, .int 0, .int 0, .int 0, .int 0, .int 0, .ref u9.1])), (u9.1, .inl (u9.2, 16, .inl (fun _ => 0))), (q16, .inr (2, [.ref u24.1, .ref q5, .int 0, .int 0, .int 0])), (u24.1, .inl (u24.2, 1024, .inl (fun _ => 0)))] H := hP
  have hD : va_D A [(h0, .inr (0, [.ref q5, .null, .null, .null, .null])), (q5, .inr (1, [.int 256, .int 256, .int 0, .int 0, .int 0, .int 0, .int 0, .int 0, .int 0, .int 0, .ref u9.1])), (u9.1, .inl (u9.2, 16, .inl (fun _ => 0))), (q16, .inr (2, [.ref u24.1, .ref q5, .int 0, .int 0, .int 0])), (u24.1, .inl (u24.2, 1024, .inl (fun _ => 0)))] := hD
  refine W.widen (k := 4) (n := 1056) (by omega) (by omega) ?_
  refine va_putF (D := D) (ci := 0) (v := .ref q16) (ty := (.object "FrameMachine$Bus")) (C := "FrameMachine") (T := zT_F) (N := 5) hx hb ht zi_F zt_F zto_F zn_F hown hK hP hD hS 0 rfl rfl 1 (by decide) (ht _ (zw_in kw_294 rfl)) (fun _ h9 => h9) rfl hin rfl (by decide +kernel) rfl rfl (Nat.le_of_ble_eq_true rfl) kd_F_init_27 (fun H locs hP hD hS => ?_)
  have hP : va_P D zq_cl [(h0, .inr (0, [.ref q5, .ref q16, .null, .null, .null])), (q5, .inr (1, [.int 256, .int 256, .int 0, .int 0, .int 0, .int 0, .int 0, .int 0, .int 0, .int 0, .ref u9.1])), (u9.1, .inl (u9.2, 16, .inl (fun _ => 0))), (q16, .inr (2, [.ref u24.1, .ref q5, .int 0, .int 0, .int 0])), (u24.1, .inl (u24.2, 1024, .inl (fun _ => 0)))] H := hP
  have hD : va_D A [(h0, .inr (0, [.ref q5, .ref q16, .null, .null, .null])), (q5, .inr (1, [.int 256, .int 256, .int 0, .int 0, .int 0, .int 0, .int 0, .int 0, .int 0, .int 0, .ref u9.1])), (u9.1, .inl (u9.2, 16, .inl (fun _ => 0))), (q16, .inr (2, [.ref u24.1, .ref q5, .int 0, .int 0, .int 0])), (u24.1, .inl (u24.2, 1024, .inl (fun _ => 0)))] := hD
  refine lv_aload_n hx hb kd_F_init_30 rfl (lv_at hl 0 rfl) ?_
  refine va_new (ci := 3) (fs := [.null, .null, .int 0, .int 0, .int 0]) (C := "FrameMachine$Registers") (T := zT_G) (N := 5) hx hb ht zi_G zt_G zto_G hown (ht _ (zw_in kw_96 rfl)) (ht _ (zw_in kw_97 rfl)) (ht _ (zw_in kw_4 rfl)) hK hP hD hS hA rfl (fun j hj => by rcases (show j = 0 ∨ j = 1 ∨ j = 2 ∨ j = 3 ∨ j = 4 by omega) with rfl | rfl | rfl | rfl | rfl <;> rfl) (Nat.le_of_ble_eq_true rfl) (Nat.le_of_ble_eq_true rfl) kd_F_init_31 (fun q31 H hP hD hS => ?_)
  have hP : va_P D zq_cl [(h0, .inr (0, [.ref q5, .ref q16, .null, .null, .null])), (q5, .inr (1, [.int 256, .int 256, .int 0, .int 0, .int 0, .int 0, .int 0, .int 0, .int 0, .int 0, .ref u9.1])), (u9.1, .inl (u9.2, 16, .inl (fun _ => 0))), (q16, .inr (2, [.ref u24.1, .ref q5, .int 0, .int 0, .int 0])), (u24.1, .inl (u24.2, 1024, .inl (fun _ => 0))), (q31, .inr (3, [.null, .null, .int 0, .int 0, .int 0]))] H := hP
  have hD : va_D A [(h0, .inr (0, [.ref q5, .ref q16, .null, .null, .null])), (q5, .inr (1, [.int 256, .int 256, .int 0, .int 0, .int 0, .int 0, .int 0, .int 0, .int 0, .int 0, .ref u9.1])), (u9.1, .inl (u9.2, 16, .inl (fun _ => 0))), (q16, .inr (2, [.ref u24.1, .ref q5, .int 0, .int 0, .int 0])), (u24.1, .inl (u24.2, 1024, .inl (fun _ => 0))), (q31, .inr (3, [.null, .null, .int 0, .int 0, .int 0]))] := hD
  refine W.widen (k := 5) (n := 1061) (by omega) (by omega) ?_
  refine lv_dup hx hb kd_F_init_34 rfl ?_
  have hPc := hP.sub (ws' := [(q31, .inr (3, [.null, .null, .int 0, .int 0, .int 0]))]) [5] rfl
  have hDc := hD.sub (ws' := [(q31, .inr (3, [.null, .null, .int 0, .int 0, .int 0]))]) [5] (by decide) rfl
  have hKc := hK.sub (tys' := []) [] rfl
  have hFc := va_free (wc := [(q31, .inr (3, [.null, .null, .int 0, .int 0, .int 0]))]) hD hS hA [5] rfl
  refine va_callv (va_runIN (As := []) (rest := [.ref q31, .ref h0]) ⟨hx, hb, hml, hown, ht⟩ (c_G_init l D q31  H.size) ⟨va_cnB 0 ht (zg_tail kw_100) rfl rfl rfl (hN _ (zw_inN kw_98 rfl)) (ht _ (zw_in kw_4 rfl)) (by decide +kernel) ⟨Nat.le_of_ble_eq_true rfl, Nat.le_of_ble_eq_true rfl⟩, rfl, (ht _ (zw_in kw_99 rfl))⟩ ⟨fun a U g mk q => by obtain ⟨q0, q1, qP, qK, qD, qN⟩ := q; exact ⟨q0, q1, qP, va_K.moved (u := U) (U := U.calling g mk a) (Vm.Alike.refl U.vm) qK, qD, zw_N.same (u := U) (U := U.calling g mk a) rfl qN⟩, fun U hU hW => ⟨rfl, by rw [hU], by rw [hU]; exact hPc, va_K.moved hW.alike hKc, hDc.weaken (fun _ _ _ _ => trivial), zw_N.warm hW hN⟩⟩ rfl rfl hl.1 rfl (lv_room (Nat.le_of_ble_eq_true rfl)) kd_F_init_35 ⟨Nat.le_of_ble_eq_true rfl, Nat.le_of_ble_eq_true rfl⟩) hS (fun q _ h => hFc q h) hFc (fun u35 t H1 locs ht1 hvm h5 hB hz1 hk1 hS => ?_)
  obtain ⟨hP1, hK1, hD1⟩ := hB
  rw [ht1] at hP1
  have hK1 := va_K.moved hvm.symm hK1
  obtain ⟨hP, hD⟩ := va_join (wr := [(h0, .inr (0, [.ref q5, .ref q16, .null, .null, .null])), (q5, .inr (1, [.int 256, .int 256, .int 0, .int 0, .int 0, .int 0, .int 0, .int 0, .int 0, .int 0, .ref u9.1])), (u9.1, .inl (u9.2, 16, .inl (fun _ => 0))), (q16, .inr (2, [.ref u24.1, .ref q5, .int 0, .int 0, .int 0])), (u24.1, .inl (u24.2, 1024, .inl (fun _ => 0)))]) (w1 := [(q31, .inr (3, [.ref u35.1, .ref u35.2.2.1, .int 0, .int 0, .int 9984])), (u35.1, .inl (u35.2.1, 8, .inl (fun _ => 0))), (u35.2.2.1, .inl (u35.2.2.2, 8, .inl (fun _ => 0)))]) hP hD [5] [0, 1, 2, 3, 4] rfl rfl (by decide) (by decide) hk1 hFc hP1 hD1
  have hK := hK.app hK1
  generalize H1 = H at hP hS ⊢
  have hK : va_K D zq_cl [(u9.2, .int), (u24.2, .byte), (u35.2.1, .int), (u35.2.2.2, .int)] s := hK
  have hP : va_P D zq_cl [(h0, .inr (0, [.ref q5, .ref q16, .null, .null, .null])), (q5, .inr (1, [.int 256, .int 256, .int 0, .int 0, .int 0, .int 0, .int 0, .int 0, .int 0, .int 0, .ref u9.1])), (u9.1, .inl (u9.2, 16, .inl (fun _ => 0))), (q16, .inr (2, [.ref u24.1, .ref q5, .int 0, .int 0, .int 0])), (u24.1, .inl (u24.2, 1024, .inl (fun _ => 0))), (q31, .inr (3, [.ref u35.1, .ref u35.2.2.1, .int 0, .int 0, .int 9984])), (u35.1, .inl (u35.2.1, 8, .inl (fun _ => 0))), (u35.2.2.1, .inl (u35.2.2.2, 8, .inl (fun _ => 0)))] H := hP
  have hD : va_D A [(h0, .inr (0, [.ref q5, .ref q16, .null, .null, .null])), (q5, .inr (1, [.int 256, .int 256, .int 0, .int 0, .int 0, .int 0, .int 0, .int 0, .int 0, .int 0, .ref u9.1])), (u9.1, .inl (u9.2, 16, .inl (fun _ => 0))), (q16, .inr (2, [.ref u24.1, .ref q5, .int 0, .int 0, .int 0])), (u24.1, .inl (u24.2, 1024, .inl (fun _ => 0))), (q31, .inr (3, [.ref u35.1, .ref u35.2.2.1, .int 0, .int 0, .int 9984])), (u35.1, .inl (u35.2.1, 8, .inl (fun _ => 0))), (u35.2.2.1, .inl (u35.2.2.2, 8, .inl (fun _ => 0)))] := hD
  refine W.widen (k := 7) (n := 1077) (by omega) (by omega) ?_
  refine va_putF (D := D) (ci := 0) (v := .ref q31) (ty := (.object "FrameMachine$Registers")) (C := "FrameMachine") (T := zT_F) (N := 5) hx hb ht zi_F zt_F zto_F zn_F hown hK hP hD hS 0 rfl rfl 2 (by decide) (ht _ (zw_in kw_295 rfl)) (fun _ h9 => h9) rfl hin rfl (by decide +kernel) rfl rfl (Nat.le_of_ble_eq_true rfl) kd_F_init_38 (fun H locs hP hD hS => ?_)
  have hP : va_P D zq_cl [(h0, .inr (0, [.ref q5, .ref q16, .ref q31, .null, .null])), (q5, .inr (1, [.int 256, .int 256, .int 0, .int 0, .int 0, .int 0, .int 0, .int 0, .int 0, .int 0, .ref u9.1])), (u9.1, .inl (u9.2, 16, .inl (fun _ => 0))), (q16, .inr (2, [.ref u24.1, .ref q5, .int 0, .int 0, .int 0])), (u24.1, .inl (u24.2, 1024, .inl (fun _ => 0))), (q31, .inr (3, [.ref u35.1, .ref u35.2.2.1, .int 0, .int 0, .int 9984])), (u35.1, .inl (u35.2.1, 8, .inl (fun _ => 0))), (u35.2.2.1, .inl (u35.2.2.2, 8, .inl (fun _ => 0)))] H := hP
  have hD : va_D A [(h0, .inr (0, [.ref q5, .ref q16, .ref q31, .null, .null])), (q5, .inr (1, [.int 256, .int 256, .int 0, .int 0, .int 0, .int 0, .int 0, .int 0, .int 0, .int 0, .ref u9.1])), (u9.1, .inl (u9.2, 16, .inl (fun _ => 0))), (q16, .inr (2, [.ref u24.1, .ref q5, .int 0, .int 0, .int 0])), (u24.1, .inl (u24.2, 1024, .inl (fun _ => 0))), (q31, .inr (3, [.ref u35.1, .ref u35.2.2.1, .int 0, .int 0, .int 9984])), (u35.1, .inl (u35.2.1, 8, .inl (fun _ => 0))), (u35.2.2.1, .inl (u35.2.2.2, 8, .inl (fun _ => 0)))] := hD
  refine va_new (ci := 4) (fs := [.null, .null]) (C := "FrameMachine$Pointers") (T := zT_Q) (N := 2) hx hb ht zi_Q zt_Q zto_Q hown (ht _ (zw_in kw_133 rfl)) (ht _ (zw_in kw_134 rfl)) (ht _ (zw_in kw_5 rfl)) hK hP hD hS hA rfl (fun j hj => by rcases (show j = 0 ∨ j = 1 by omega) with rfl | rfl <;> rfl) (Nat.le_of_ble_eq_true rfl) (Nat.le_of_ble_eq_true rfl) kd_F_init_41 (fun q41 H hP hD hS => ?_)
  have hP : va_P D zq_cl [(h0, .inr (0, [.ref q5, .ref q16, .ref q31, .null, .null])), (q5, .inr (1, [.int 256, .int 256, .int 0, .int 0, .int 0, .int 0, .int 0, .int 0, .int 0, .int 0, .ref u9.1])), (u9.1, .inl (u9.2, 16, .inl (fun _ => 0))), (q16, .inr (2, [.ref u24.1, .ref q5, .int 0, .int 0, .int 0])), (u24.1, .inl (u24.2, 1024, .inl (fun _ => 0))), (q31, .inr (3, [.ref u35.1, .ref u35.2.2.1, .int 0, .int 0, .int 9984])), (u35.1, .inl (u35.2.1, 8, .inl (fun _ => 0))), (u35.2.2.1, .inl (u35.2.2.2, 8, .inl (fun _ => 0))), (q41, .inr (4, [.null, .null]))] H := hP
  have hD : va_D A [(h0, .inr (0, [.ref q5, .ref q16, .ref q31, .null, .null])), (q5, .inr (1, [.int 256, .int 256, .int 0, .int 0, .int 0, .int 0, .int 0, .int 0, .int 0, .int 0, .ref u9.1])), (u9.1, .inl (u9.2, 16, .inl (fun _ => 0))), (q16, .inr (2, [.ref u24.1, .ref q5, .int 0, .int 0, .int 0])), (u24.1, .inl (u24.2, 1024, .inl (fun _ => 0))), (q31, .inr (3, [.ref u35.1, .ref u35.2.2.1, .int 0, .int 0, .int 9984])), (u35.1, .inl (u35.2.1, 8, .inl (fun _ => 0))), (u35.2.2.1, .inl (u35.2.2.2, 8, .inl (fun _ => 0))), (q41, .inr (4, [.null, .null]))] := hD
  refine W.widen (k := 8) (n := 1079) (by omega) (by omega) ?_
  refine lv_dup hx hb kd_F_init_44 rfl ?_
  refine lv_aload_n hx hb kd_F_init_45 rfl (lv_at hl 0 rfl) ?_
  refine va_get (D := D) (ci := 0) (v := .ref q16) (C := "FrameMachine") (T := zT_F) (N := 5) hx hb ht zi_F hown hK hP 0 rfl rfl 1 (by decide) (ht _ (zw_in kw_294 rfl)) (fun _ h9 => h9) rfl kd_F_init_46 ?_
  refine lv_aload_n hx hb kd_F_init_49 rfl (lv_at hl 0 rfl) ?_
  refine va_get (D := D) (ci := 0) (v := .ref q31) (C := "FrameMachine") (T := zT_F) (N := 5) hx hb ht zi_F hown hK hP 0 rfl rfl 2 (by decide) (ht _ (zw_in kw_295 rfl)) (fun _ h9 => h9) rfl kd_F_init_50 ?_
  have hPc := hP.sub (ws' := [(q41, .inr (4, [.null, .null]))]) [8] rfl
  have hDc := hD.sub (ws' := [(q41, .inr (4, [.null, .null]))]) [8] (by decide) rfl
  have hKc := hK.sub (tys' := []) [] rfl
  have hFc := va_free (wc := [(q41, .inr (4, [.null, .null]))]) hD hS hA [8] rfl
  refine va_callv (va_runI (As := [.ref q16, .ref q31]) (rest := [.ref q41]) ⟨hx, hb, hml, hown, ht⟩ (c_Q_init l D q41 q16 q31 H.size) (cwI 2 ht (zg_tail kw_137) rfl rfl rfl (ht _ (zw_in kw_5 rfl)) (ht _ (zw_in kw_135 rfl)) (ht _ (zw_in kw_136 rfl)) rfl (by decide +kernel) ⟨Nat.le_of_ble_eq_true rfl, Nat.le_of_ble_eq_true rfl⟩) ⟨fun a U g mk q => by obtain ⟨q0, q1, qP, qK, qD, qN⟩ := q; exact ⟨q0, q1, qP, va_K.moved (u := U) (U := U.calling g mk a) (Vm.Alike.refl U.vm) qK, qD, zw_N.same (u := U) (U := U.calling g mk a) rfl qN⟩, fun U hU hW => ⟨rfl, by rw [hU], by rw [hU]; exact hPc, va_K.moved hW.alike hKc, hDc.weaken (fun _ _ _ _ => trivial), zw_N.warm hW hN⟩⟩ rfl rfl hl.1 rfl (lv_room (Nat.le_of_ble_eq_true rfl)) kd_F_init_53 ⟨Nat.le_of_ble_eq_true rfl, Nat.le_of_ble_eq_true rfl⟩) hS (fun q _ h => hFc q h) hFc (fun u53 t H1 locs ht1 hvm h5 hB hz1 hk1 hS => ?_)
  obtain ⟨hP1, hK1, hD1⟩ := hB
  rw [ht1] at hP1
  have hK1 := va_K.moved hvm.symm hK1
  obtain ⟨hP, hD⟩ := va_join (wr := [(h0, .inr (0, [.ref q5, .ref q16, .ref q31, .null, .null])), (q5, .inr (1, [.int 256, .int 256, .int 0, .int 0, .int 0, .int 0, .int 0, .int 0, .int 0, .int 0, .ref u9.1])), (u9.1, .inl (u9.2, 16, .inl (fun _ => 0))), (q16, .inr (2, [.ref u24.1, .ref q5, .int 0, .int 0, .int 0])), (u24.1, .inl (u24.2, 1024, .inl (fun _ => 0))), (q31, .inr (3, [.ref u35.1, .ref u35.2.2.1, .int 0, .int 0, .int 9984])), (u35.1, .inl (u35.2.1, 8, .inl (fun _ => 0))), (u35.2.2.1, .inl (u35.2.2.2, 8, .inl (fun _ => 0)))]) (w1 := [(q41, .inr (4, [.ref q16, .ref q31]))]) hP hD [8] [0, 1, 2, 3, 4, 5, 6, 7] rfl rfl (by decide) (by decide) hk1 hFc hP1 hD1
  have hK := hK.app hK1
  generalize H1 = H at hP hS ⊢
  have hK : va_K D zq_cl [(u9.2, .int), (u24.2, .byte), (u35.2.1, .int), (u35.2.2.2, .int)] s := hK
  have hP : va_P D zq_cl [(h0, .inr (0, [.ref q5, .ref q16, .ref q31, .null, .null])), (q5, .inr (1, [.int 256, .int 256, .int 0, .int 0, .int 0, .int 0, .int 0, .int 0, .int 0, .int 0, .ref u9.1])), (u9.1, .inl (u9.2, 16, .inl (fun _ => 0))), (q16, .inr (2, [.ref u24.1, .ref q5, .int 0, .int 0, .int 0])), (u24.1, .inl (u24.2, 1024, .inl (fun _ => 0))), (q31, .inr (3, [.ref u35.1, .ref u35.2.2.1, .int 0, .int 0, .int 9984])), (u35.1, .inl (u35.2.1, 8, .inl (fun _ => 0))), (u35.2.2.1, .inl (u35.2.2.2, 8, .inl (fun _ => 0))), (q41, .inr (4, [.ref q16, .ref q31]))] H := hP
  have hD : va_D A [(h0, .inr (0, [.ref q5, .ref q16, .ref q31, .null, .null])), (q5, .inr (1, [.int 256, .int 256, .int 0, .int 0, .int 0, .int 0, .int 0, .int 0, .int 0, .int 0, .ref u9.1])), (u9.1, .inl (u9.2, 16, .inl (fun _ => 0))), (q16, .inr (2, [.ref u24.1, .ref q5, .int 0, .int 0, .int 0])), (u24.1, .inl (u24.2, 1024, .inl (fun _ => 0))), (q31, .inr (3, [.ref u35.1, .ref u35.2.2.1, .int 0, .int 0, .int 9984])), (u35.1, .inl (u35.2.1, 8, .inl (fun _ => 0))), (u35.2.2.1, .inl (u35.2.2.2, 8, .inl (fun _ => 0))), (q41, .inr (4, [.ref q16, .ref q31]))] := hD
  refine W.widen (k := 8) (n := 1079) (by omega) (by omega) ?_
  refine lv_astore_n hx hb kd_F_init_56 rfl hl (Nat.le_of_ble_eq_true rfl) (lv' := [(1, .ref q41), (0, .ref h0)]) rfl (fun ls hl => ?_)
  refine lv_aload_n hx hb kd_F_init_57 rfl (lv_at hl 1 rfl) ?_
  refine va_new (ci := 5) (fs := [.null, .null, .null, .int 0, .int 0, .int 0]) (C := "FrameMachine$Exceptions") (T := zT_E) (N := 6) hx hb ht zi_E zt_E zto_E hown (ht _ (zw_in kw_146 rfl)) (ht _ (zw_in kw_147 rfl)) (ht _ (zw_in kw_6 rfl)) hK hP hD hS hA rfl (fun j hj => by rcases (show j = 0 ∨ j = 1 ∨ j = 2 ∨ j = 3 ∨ j = 4 ∨ j = 5 by omega) with rfl | rfl | rfl | rfl | rfl | rfl <;> rfl) (Nat.le_of_ble_eq_true rfl) (Nat.le_of_ble_eq_true rfl) kd_F_init_58 (fun q58 H hP hD hS => ?_)
  have hP : va_P D zq_cl [(h0, .inr (0, [.ref q5, .ref q16, .ref q31, .null, .null])), (q5, .inr (1, [.int 256, .int 256, .int 0, .int 0, .int 0, .int 0, .int 0, .int 0, .int 0, .int 0, .ref u9.1])), (u9.1, .inl (u9.2, 16, .inl (fun _ => 0))), (q16, .inr (2, [.ref u24.1, .ref q5, .int 0, .int 0, .int 0])), (u24.1, .inl (u24.2, 1024, .inl (fun _ => 0))), (q31, .inr (3, [.ref u35.1, .ref u35.2.2.1, .int 0, .int 0, .int 9984])), (u35.1, .inl (u35.2.1, 8, .inl (fun _ => 0))), (u35.2.2.1, .inl (u35.2.2.2, 8, .inl (fun _ => 0))), (q41, .inr (4, [.ref q16, .ref q31])), (q58, .inr (5, [.null, .null, .null, .int 0, .int 0, .int 0]))] H := hP
  have hD : va_D A [(h0, .inr (0, [.ref q5, .ref q16, .ref q31, .null, .null])), (q5, .inr (1, [.int 256, .int 256, .int 0, .int 0, .int 0, .int 0, .int 0, .int 0, .int 0, .int 0, .ref u9.1])), (u9.1, .inl (u9.2, 16, .inl (fun _ => 0))), (q16, .inr (2, [.ref u24.1, .ref q5, .int 0, .int 0, .int 0])), (u24.1, .inl (u24.2, 1024, .inl (fun _ => 0))), (q31, .inr (3, [.ref u35.1, .ref u35.2.2.1, .int 0, .int 0, .int 9984])), (u35.1, .inl (u35.2.1, 8, .inl (fun _ => 0))), (u35.2.2.1, .inl (u35.2.2.2, 8, .inl (fun _ => 0))), (q41, .inr (4, [.ref q16, .ref q31])), (q58, .inr (5, [.null, .null, .null, .int 0, .int 0, .int 0]))] := hD
  refine W.widen (k := 9) (n := 1085) (by omega) (by omega) ?_
  refine lv_dup hx hb kd_F_init_61 rfl ?_
  refine lv_aload_n hx hb kd_F_init_62 rfl (lv_at hl 1 rfl) ?_
  refine va_get (D := D) (ci := 0) (v := .ref q16) (C := "FrameMachine") (T := zT_F) (N := 5) hx hb ht zi_F hown hK hP 0 rfl rfl 1 (by decide) (ht _ (zw_in kw_294 rfl)) (fun _ h9 => h9) rfl kd_F_init_63 ?_
  refine lv_aload_n hx hb kd_F_init_66 rfl (lv_at hl 1 rfl) ?_
  refine va_get (D := D) (ci := 0) (v := .ref q31) (C := "FrameMachine") (T := zT_F) (N := 5) hx hb ht zi_F hown hK hP 0 rfl rfl 2 (by decide) (ht _ (zw_in kw_295 rfl)) (fun _ h9 => h9) rfl kd_F_init_67 ?_
  refine lv_aload_n hx hb kd_F_init_70 rfl (lv_at hl 0 rfl) ?_
  have hPc := hP.sub (ws' := [(q58, .inr (5, [.null, .null, .null, .int 0, .int 0, .int 0]))]) [9] rfl
  have hDc := hD.sub (ws' := [(q58, .inr (5, [.null, .null, .null, .int 0, .int 0, .int 0]))]) [9] (by decide) rfl
  have hKc := hK.sub (tys' := []) [] rfl
  have hFc := va_free (wc := [(q58, .inr (5, [.null, .null, .null, .int 0, .int 0, .int 0]))]) hD hS hA [9] rfl
  refine va_callv (va_runI (As := [.ref q16, .ref q31, .ref q41]) (rest := [.ref q58, .ref h0]) ⟨hx, hb, hml, hown, ht⟩ (c_E_init l D q58 q16 q31 q41 H.size) (cwI 3 ht (zg_tail kw_150) rfl rfl rfl (ht _ (zw_in kw_6 rfl)) (ht _ (zw_in kw_148 rfl)) (ht _ (zw_in kw_149 rfl)) rfl (by decide +kernel) ⟨Nat.le_of_ble_eq_true rfl, Nat.le_of_ble_eq_true rfl⟩) ⟨fun a U g mk q => by obtain ⟨q0, q1, qP, qK, qD, qN⟩ := q; exact ⟨q0, q1, qP, va_K.moved (u := U) (U := U.calling g mk a) (Vm.Alike.refl U.vm) qK, qD, zw_N.same (u := U) (U := U.calling g mk a) rfl qN⟩, fun U hU hW => ⟨rfl, by rw [hU], by rw [hU]; exact hPc, va_K.moved hW.alike hKc, hDc.weaken (fun _ _ _ _ => trivial), zw_N.warm hW hN⟩⟩ rfl rfl hl.1 rfl (lv_room (Nat.le_of_ble_eq_true rfl)) kd_F_init_71 ⟨Nat.le_of_ble_eq_true rfl, Nat.le_of_ble_eq_true rfl⟩) hS (fun q _ h => hFc q h) hFc (fun u71 t H1 locs ht1 hvm h5 hB hz1 hk1 hS => ?_)
  obtain ⟨hP1, hK1, hD1⟩ := hB
  rw [ht1] at hP1
  have hK1 := va_K.moved hvm.symm hK1
  obtain ⟨hP, hD⟩ := va_join (wr := [(h0, .inr (0, [.ref q5, .ref q16, .ref q31, .null, .null])), (q5, .inr (1, [.int 256, .int 256, .int 0, .int 0, .int 0, .int 0, .int 0, .int 0, .int 0, .int 0, .ref u9.1])), (u9.1, .inl (u9.2, 16, .inl (fun _ => 0))), (q16, .inr (2, [.ref u24.1, .ref q5, .int 0, .int 0, .int 0])), (u24.1, .inl (u24.2, 1024, .inl (fun _ => 0))), (q31, .inr (3, [.ref u35.1, .ref u35.2.2.1, .int 0, .int 0, .int 9984])), (u35.1, .inl (u35.2.1, 8, .inl (fun _ => 0))), (u35.2.2.1, .inl (u35.2.2.2, 8, .inl (fun _ => 0))), (q41, .inr (4, [.ref q16, .ref q31]))]) (w1 := [(q58, .inr (5, [.ref q16, .ref q31, .ref q41, .int 0, .int 0, .int 0]))]) hP hD [9] [0, 1, 2, 3, 4, 5, 6, 7, 8] rfl rfl (by decide) (by decide) hk1 hFc hP1 hD1
  have hK := hK.app hK1
  generalize H1 = H at hP hS ⊢
  have hK : va_K D zq_cl [(u9.2, .int), (u24.2, .byte), (u35.2.1, .int), (u35.2.2.2, .int)] s := hK
  have hP : va_P D zq_cl [(h0, .inr (0, [.ref q5, .ref q16, .ref q31, .null, .null])), (q5, .inr (1, [.int 256, .int 256, .int 0, .int 0, .int 0, .int 0, .int 0, .int 0, .int 0, .int 0, .ref u9.1])), (u9.1, .inl (u9.2, 16, .inl (fun _ => 0))), (q16, .inr (2, [.ref u24.1, .ref q5, .int 0, .int 0, .int 0])), (u24.1, .inl (u24.2, 1024, .inl (fun _ => 0))), (q31, .inr (3, [.ref u35.1, .ref u35.2.2.1, .int 0, .int 0, .int 9984])), (u35.1, .inl (u35.2.1, 8, .inl (fun _ => 0))), (u35.2.2.1, .inl (u35.2.2.2, 8, .inl (fun _ => 0))), (q41, .inr (4, [.ref q16, .ref q31])), (q58, .inr (5, [.ref q16, .ref q31, .ref q41, .int 0, .int 0, .int 0]))] H := hP
  have hD : va_D A [(h0, .inr (0, [.ref q5, .ref q16, .ref q31, .null, .null])), (q5, .inr (1, [.int 256, .int 256, .int 0, .int 0, .int 0, .int 0, .int 0, .int 0, .int 0, .int 0, .ref u9.1])), (u9.1, .inl (u9.2, 16, .inl (fun _ => 0))), (q16, .inr (2, [.ref u24.1, .ref q5, .int 0, .int 0, .int 0])), (u24.1, .inl (u24.2, 1024, .inl (fun _ => 0))), (q31, .inr (3, [.ref u35.1, .ref u35.2.2.1, .int 0, .int 0, .int 9984])), (u35.1, .inl (u35.2.1, 8, .inl (fun _ => 0))), (u35.2.2.1, .inl (u35.2.2.2, 8, .inl (fun _ => 0))), (q41, .inr (4, [.ref q16, .ref q31])), (q58, .inr (5, [.ref q16, .ref q31, .ref q41, .int 0, .int 0, .int 0]))] := hD
  refine W.widen (k := 9) (n := 1085) (by omega) (by omega) ?_
  refine va_putF (D := D) (ci := 0) (v := .ref q58) (ty := (.object "FrameMachine$Exceptions")) (C := "FrameMachine") (T := zT_F) (N := 5) hx hb ht zi_F zt_F zto_F zn_F hown hK hP hD hS 0 rfl rfl 3 (by decide) (ht _ (zw_in kw_296 rfl)) (fun _ h9 => h9) rfl hin rfl (by decide +kernel) rfl rfl (Nat.le_of_ble_eq_true rfl) kd_F_init_74 (fun H locs hP hD hS => ?_)
  have hP : va_P D zq_cl [(h0, .inr (0, [.ref q5, .ref q16, .ref q31, .ref q58, .null])), (q5, .inr (1, [.int 256, .int 256, .int 0, .int 0, .int 0, .int 0, .int 0, .int 0, .int 0, .int 0, .ref u9.1])), (u9.1, .inl (u9.2, 16, .inl (fun _ => 0))), (q16, .inr (2, [.ref u24.1, .ref q5, .int 0, .int 0, .int 0])), (u24.1, .inl (u24.2, 1024, .inl (fun _ => 0))), (q31, .inr (3, [.ref u35.1, .ref u35.2.2.1, .int 0, .int 0, .int 9984])), (u35.1, .inl (u35.2.1, 8, .inl (fun _ => 0))), (u35.2.2.1, .inl (u35.2.2.2, 8, .inl (fun _ => 0))), (q41, .inr (4, [.ref q16, .ref q31])), (q58, .inr (5, [.ref q16, .ref q31, .ref q41, .int 0, .int 0, .int 0]))] H := hP
  have hD : va_D A [(h0, .inr (0, [.ref q5, .ref q16, .ref q31, .ref q58, .null])), (q5, .inr (1, [.int 256, .int 256, .int 0, .int 0, .int 0, .int 0, .int 0, .int 0, .int 0, .int 0, .ref u9.1])), (u9.1, .inl (u9.2, 16, .inl (fun _ => 0))), (q16, .inr (2, [.ref u24.1, .ref q5, .int 0, .int 0, .int 0])), (u24.1, .inl (u24.2, 1024, .inl (fun _ => 0))), (q31, .inr (3, [.ref u35.1, .ref u35.2.2.1, .int 0, .int 0, .int 9984])), (u35.1, .inl (u35.2.1, 8, .inl (fun _ => 0))), (u35.2.2.1, .inl (u35.2.2.2, 8, .inl (fun _ => 0))), (q41, .inr (4, [.ref q16, .ref q31])), (q58, .inr (5, [.ref q16, .ref q31, .ref q41, .int 0, .int 0, .int 0]))] := hD
  refine lv_aload_n hx hb kd_F_init_77 rfl (lv_at hl 1 rfl) ?_
  refine va_new (ci := 6) (fs := [.null, .null, .null, .null, .null, .null, .null, .int 0, .int 0, .int 0, .int 0]) (C := "FrameMachine$Processor") (T := zT_P) (N := 11) hx hb ht zi_P zt_P zto_P hown (ht _ (zw_in kw_175 rfl)) (ht _ (zw_in kw_176 rfl)) (ht _ (zw_in kw_7 rfl)) hK hP hD hS hA rfl (fun j hj => by rcases (show j = 0 ∨ j = 1 ∨ j = 2 ∨ j = 3 ∨ j = 4 ∨ j = 5 ∨ j = 6 ∨ j = 7 ∨ j = 8 ∨ j = 9 ∨ j = 10 by omega) with rfl | rfl | rfl | rfl | rfl | rfl | rfl | rfl | rfl | rfl | rfl <;> rfl) (Nat.le_of_ble_eq_true rfl) (Nat.le_of_ble_eq_true rfl) kd_F_init_78 (fun q78 H hP hD hS => ?_)
  have hP : va_P D zq_cl [(h0, .inr (0, [.ref q5, .ref q16, .ref q31, .ref q58, .null])), (q5, .inr (1, [.int 256, .int 256, .int 0, .int 0, .int 0, .int 0, .int 0, .int 0, .int 0, .int 0, .ref u9.1])), (u9.1, .inl (u9.2, 16, .inl (fun _ => 0))), (q16, .inr (2, [.ref u24.1, .ref q5, .int 0, .int 0, .int 0])), (u24.1, .inl (u24.2, 1024, .inl (fun _ => 0))), (q31, .inr (3, [.ref u35.1, .ref u35.2.2.1, .int 0, .int 0, .int 9984])), (u35.1, .inl (u35.2.1, 8, .inl (fun _ => 0))), (u35.2.2.1, .inl (u35.2.2.2, 8, .inl (fun _ => 0))), (q41, .inr (4, [.ref q16, .ref q31])), (q58, .inr (5, [.ref q16, .ref q31, .ref q41, .int 0, .int 0, .int 0])), (q78, .inr (6, [.null, .null, .null, .null, .null, .null, .null, .int 0, .int 0, .int 0, .int 0]))] H := hP
  have hD : va_D A [(h0, .inr (0, [.ref q5, .ref q16, .ref q31, .ref q58, .null])), (q5, .inr (1, [.int 256, .int 256, .int 0, .int 0, .int 0, .int 0, .int 0, .int 0, .int 0, .int 0, .ref u9.1])), (u9.1, .inl (u9.2, 16, .inl (fun _ => 0))), (q16, .inr (2, [.ref u24.1, .ref q5, .int 0, .int 0, .int 0])), (u24.1, .inl (u24.2, 1024, .inl (fun _ => 0))), (q31, .inr (3, [.ref u35.1, .ref u35.2.2.1, .int 0, .int 0, .int 9984])), (u35.1, .inl (u35.2.1, 8, .inl (fun _ => 0))), (u35.2.2.1, .inl (u35.2.2.2, 8, .inl (fun _ => 0))), (q41, .inr (4, [.ref q16, .ref q31])), (q58, .inr (5, [.ref q16, .ref q31, .ref q41, .int 0, .int 0, .int 0])), (q78, .inr (6, [.null, .null, .null, .null, .null, .null, .null, .int 0, .int 0, .int 0, .int 0]))] := hD
  refine W.widen (k := 10) (n := 1096) (by omega) (by omega) ?_
  refine lv_dup hx hb kd_F_init_81 rfl ?_
  refine lv_aload_n hx hb kd_F_init_82 rfl (lv_at hl 1 rfl) ?_
  refine va_get (D := D) (ci := 0) (v := .ref q16) (C := "FrameMachine") (T := zT_F) (N := 5) hx hb ht zi_F hown hK hP 0 rfl rfl 1 (by decide) (ht _ (zw_in kw_294 rfl)) (fun _ h9 => h9) rfl kd_F_init_83 ?_
  refine lv_aload_n hx hb kd_F_init_86 rfl (lv_at hl 1 rfl) ?_
  refine va_get (D := D) (ci := 0) (v := .ref q31) (C := "FrameMachine") (T := zT_F) (N := 5) hx hb ht zi_F hown hK hP 0 rfl rfl 2 (by decide) (ht _ (zw_in kw_295 rfl)) (fun _ h9 => h9) rfl kd_F_init_87 ?_
  refine lv_aload_n hx hb kd_F_init_90 rfl (lv_at hl 0 rfl) ?_
  refine lv_aload_n hx hb kd_F_init_91 rfl (lv_at hl 1 rfl) ?_
  refine va_get (D := D) (ci := 0) (v := .ref q58) (C := "FrameMachine") (T := zT_F) (N := 5) hx hb ht zi_F hown hK hP 0 rfl rfl 3 (by decide) (ht _ (zw_in kw_296 rfl)) (fun _ h9 => h9) rfl kd_F_init_92 ?_
  have hPc := hP.sub (ws' := [(q78, .inr (6, [.null, .null, .null, .null, .null, .null, .null, .int 0, .int 0, .int 0, .int 0]))]) [10] rfl
  have hDc := hD.sub (ws' := [(q78, .inr (6, [.null, .null, .null, .null, .null, .null, .null, .int 0, .int 0, .int 0, .int 0]))]) [10] (by decide) rfl
  have hKc := hK.sub (tys' := []) [] rfl
  have hFc := va_free (wc := [(q78, .inr (6, [.null, .null, .null, .null, .null, .null, .null, .int 0, .int 0, .int 0, .int 0]))]) hD hS hA [10] rfl
  refine va_callv (va_runI (As := [.ref q16, .ref q31, .ref q41, .ref q58]) (rest := [.ref q78, .ref h0]) ⟨hx, hb, hml, hown, ht⟩ (c_P_init l D q78 q16 q31 q41 q58 H.size) (cwI 4 ht (zg_tail kw_179) rfl rfl rfl (ht _ (zw_in kw_7 rfl)) (ht _ (zw_in kw_177 rfl)) (ht _ (zw_in kw_178 rfl)) rfl (by decide +kernel) ⟨Nat.le_of_ble_eq_true rfl, Nat.le_of_ble_eq_true rfl⟩) ⟨fun a U g mk q => by obtain ⟨q0, q1, qP, qK, qD, qN⟩ := q; exact ⟨q0, q1, qP, va_K.moved (u := U) (U := U.calling g mk a) (Vm.Alike.refl U.vm) qK, qD, zw_N.same (u := U) (U := U.calling g mk a) rfl qN⟩, fun U hU hW => ⟨rfl, by rw [hU], by rw [hU]; exact hPc, va_K.moved hW.alike hKc, hDc.weaken (fun _ _ _ _ => trivial), zw_N.warm hW hN⟩⟩ rfl rfl hl.1 rfl (lv_room (Nat.le_of_ble_eq_true rfl)) kd_F_init_95 ⟨Nat.le_of_ble_eq_true rfl, Nat.le_of_ble_eq_true rfl⟩) hS (fun q _ h => hFc q h) hFc (fun u95 t H1 locs ht1 hvm h5 hB hz1 hk1 hS => ?_)
  obtain ⟨hP1, hK1, hD1⟩ := hB
  rw [ht1] at hP1
  have hK1 := va_K.moved hvm.symm hK1
  obtain ⟨hP, hD⟩ := va_join (wr := [(h0, .inr (0, [.ref q5, .ref q16, .ref q31, .ref q58, .null])), (q5, .inr (1, [.int 256, .int 256, .int 0, .int 0, .int 0, .int 0, .int 0, .int 0, .int 0, .int 0, .ref u9.1])), (u9.1, .inl (u9.2, 16, .inl (fun _ => 0))), (q16, .inr (2, [.ref u24.1, .ref q5, .int 0, .int 0, .int 0])), (u24.1, .inl (u24.2, 1024, .inl (fun _ => 0))), (q31, .inr (3, [.ref u35.1, .ref u35.2.2.1, .int 0, .int 0, .int 9984])), (u35.1, .inl (u35.2.1, 8, .inl (fun _ => 0))), (u35.2.2.1, .inl (u35.2.2.2, 8, .inl (fun _ => 0))), (q41, .inr (4, [.ref q16, .ref q31])), (q58, .inr (5, [.ref q16, .ref q31, .ref q41, .int 0, .int 0, .int 0]))]) (w1 := [(q78, .inr (6, [.ref q16, .ref q31, .ref q41, .ref q58, .ref u95.1, .ref u95.2.1, .ref u95.2.2, .int 0, .int 0, .int 0, .int 0])), (u95.1, .inr (7, [.int 0, .int 0, .int 0, .int 0, .int 0, .int 0])), (u95.2.1, .inr (8, [.ref q16, .ref q31, .ref q41, .int 0, .int 0, .int 0, .int 0, .int 0])), (u95.2.2, .inr (9, [.ref q31]))]) hP hD [10] [0, 1, 2, 3, 4, 5, 6, 7, 8, 9] rfl rfl (by decide) (by decide) hk1 hFc hP1 hD1
  have hK := hK.app hK1
  generalize H1 = H at hP hS ⊢
  have hK : va_K D zq_cl [(u9.2, .int), (u24.2, .byte), (u35.2.1, .int), (u35.2.2.2, .int)] s := hK
  have hP : va_P D zq_cl [(h0, .inr (0, [.ref q5, .ref q16, .ref q31, .ref q58, .null])), (q5, .inr (1, [.int 256, .int 256, .int 0, .int 0, .int 0, .int 0, .int 0, .int 0, .int 0, .int 0, .ref u9.1])), (u9.1, .inl (u9.2, 16, .inl (fun _ => 0))), (q16, .inr (2, [.ref u24.1, .ref q5, .int 0, .int 0, .int 0])), (u24.1, .inl (u24.2, 1024, .inl (fun _ => 0))), (q31, .inr (3, [.ref u35.1, .ref u35.2.2.1, .int 0, .int 0, .int 9984])), (u35.1, .inl (u35.2.1, 8, .inl (fun _ => 0))), (u35.2.2.1, .inl (u35.2.2.2, 8, .inl (fun _ => 0))), (q41, .inr (4, [.ref q16, .ref q31])), (q58, .inr (5, [.ref q16, .ref q31, .ref q41, .int 0, .int 0, .int 0])), (q78, .inr (6, [.ref q16, .ref q31, .ref q41, .ref q58, .ref u95.1, .ref u95.2.1, .ref u95.2.2, .int 0, .int 0, .int 0, .int 0])), (u95.1, .inr (7, [.int 0, .int 0, .int 0, .int 0, .int 0, .int 0])), (u95.2.1, .inr (8, [.ref q16, .ref q31, .ref q41, .int 0, .int 0, .int 0, .int 0, .int 0])), (u95.2.2, .inr (9, [.ref q31]))] H := hP
  have hD : va_D A [(h0, .inr (0, [.ref q5, .ref q16, .ref q31, .ref q58, .null])), (q5, .inr (1, [.int 256, .int 256, .int 0, .int 0, .int 0, .int 0, .int 0, .int 0, .int 0, .int 0, .ref u9.1])), (u9.1, .inl (u9.2, 16, .inl (fun _ => 0))), (q16, .inr (2, [.ref u24.1, .ref q5, .int 0, .int 0, .int 0])), (u24.1, .inl (u24.2, 1024, .inl (fun _ => 0))), (q31, .inr (3, [.ref u35.1, .ref u35.2.2.1, .int 0, .int 0, .int 9984])), (u35.1, .inl (u35.2.1, 8, .inl (fun _ => 0))), (u35.2.2.1, .inl (u35.2.2.2, 8, .inl (fun _ => 0))), (q41, .inr (4, [.ref q16, .ref q31])), (q58, .inr (5, [.ref q16, .ref q31, .ref q41, .int 0, .int 0, .int 0])), (q78, .inr (6, [.ref q16, .ref q31, .ref q41, .ref q58, .ref u95.1, .ref u95.2.1, .ref u95.2.2, .int 0, .int 0, .int 0, .int 0])), (u95.1, .inr (7, [.int 0, .int 0, .int 0, .int 0, .int 0, .int 0])), (u95.2.1, .inr (8, [.ref q16, .ref q31, .ref q41, .int 0, .int 0, .int 0, .int 0, .int 0])), (u95.2.2, .inr (9, [.ref q31]))] := hD
  refine W.widen (k := 13) (n := 1111) (by omega) (by omega) ?_
  refine va_putF (D := D) (ci := 0) (v := .ref q78) (ty := (.object "FrameMachine$Processor")) (C := "FrameMachine") (T := zT_F) (N := 5) hx hb ht zi_F zt_F zto_F zn_F hown hK hP hD hS 0 rfl rfl 4 (by decide) (ht _ (zw_in kw_297 rfl)) (fun _ h9 => h9) rfl hin rfl (by decide +kernel) rfl rfl (Nat.le_of_ble_eq_true rfl) kd_F_init_98 (fun H locs hP hD hS => ?_)
  have hP : va_P D zq_cl [(h0, .inr (0, [.ref q5, .ref q16, .ref q31, .ref q58, .ref q78])), (q5, .inr (1, [.int 256, .int 256, .int 0, .int 0, .int 0, .int 0, .int 0, .int 0, .int 0, .int 0, .ref u9.1])), (u9.1, .inl (u9.2, 16, .inl (fun _ => 0))), (q16, .inr (2, [.ref u24.1, .ref q5, .int 0, .int 0, .int 0])), (u24.1, .inl (u24.2, 1024, .inl (fun _ => 0))), (q31, .inr (3, [.ref u35.1, .ref u35.2.2.1, .int 0, .int 0, .int 9984])), (u35.1, .inl (u35.2.1, 8, .inl (fun _ => 0))), (u35.2.2.1, .inl (u35.2.2.2, 8, .inl (fun _ => 0))), (q41, .inr (4, [.ref q16, .ref q31])), (q58, .inr (5, [.ref q16, .ref q31, .ref q41, .int 0, .int 0, .int 0])), (q78, .inr (6, [.ref q16, .ref q31, .ref q41, .ref q58, .ref u95.1, .ref u95.2.1, .ref u95.2.2, .int 0, .int 0, .int 0, .int 0])), (u95.1, .inr (7, [.int 0, .int 0, .int 0, .int 0, .int 0, .int 0])), (u95.2.1, .inr (8, [.ref q16, .ref q31, .ref q41, .int 0, .int 0, .int 0, .int 0, .int 0])), (u95.2.2, .inr (9, [.ref q31]))] H := hP
  have hD : va_D A [(h0, .inr (0, [.ref q5, .ref q16, .ref q31, .ref q58, .ref q78])), (q5, .inr (1, [.int 256, .int 256, .int 0, .int 0, .int 0, .int 0, .int 0, .int 0, .int 0, .int 0, .ref u9.1])), (u9.1, .inl (u9.2, 16, .inl (fun _ => 0))), (q16, .inr (2, [.ref u24.1, .ref q5, .int 0, .int 0, .int 0])), (u24.1, .inl (u24.2, 1024, .inl (fun _ => 0))), (q31, .inr (3, [.ref u35.1, .ref u35.2.2.1, .int 0, .int 0, .int 9984])), (u35.1, .inl (u35.2.1, 8, .inl (fun _ => 0))), (u35.2.2.1, .inl (u35.2.2.2, 8, .inl (fun _ => 0))), (q41, .inr (4, [.ref q16, .ref q31])), (q58, .inr (5, [.ref q16, .ref q31, .ref q41, .int 0, .int 0, .int 0])), (q78, .inr (6, [.ref q16, .ref q31, .ref q41, .ref q58, .ref u95.1, .ref u95.2.1, .ref u95.2.2, .int 0, .int 0, .int 0, .int 0])), (u95.1, .inr (7, [.int 0, .int 0, .int 0, .int 0, .int 0, .int 0])), (u95.2.1, .inr (8, [.ref q16, .ref q31, .ref q41, .int 0, .int 0, .int 0, .int 0, .int 0])), (u95.2.2, .inr (9, [.ref q31]))] := hD
  exact W.vret hx hb hr (fun t ht2 hW => ⟨⟨(q5, u9.1, u9.2, q16, u24.1, u24.2, q31, u35.1, u35.2.1, u35.2.2.1, u35.2.2.2, q41, q58, q78, u95.1, u95.2.1, u95.2.2), rfl, trivial, (by show va_P _ _ _ t.heap; rw [ht2]; exact hP), va_K.moved hW.alike hK, hD⟩, hS.F ht2⟩) hS.2.2 kd_F_init_101 (hlocks := hlocks)
abbrev b_M_init : ByteArray := prog_12_method_1_code
def y_M_init : MethodName := ⟨"FrameMachineModel", "<init>", "()V"⟩
theorem kd_M_init_0 : decode b_M_init 0 = .ok (.aload_n 0, 1) := by decide +kernel
theorem kd_M_init_1 : decode b_M_init 1 = .ok (.invokespecial 1, 3) := by decide +kernel
theorem kd_M_init_4 : decode b_M_init 4 = .ok (.aload_n 0, 1) := by decide +kernel
theorem kd_M_init_5 : decode b_M_init 5 = .ok (.sipush 1024, 3) := by decide +kernel
theorem kd_M_init_8 : decode b_M_init 8 = .ok (.newarray .int, 2) := by decide +kernel
theorem kd_M_init_10 : decode b_M_init 10 = .ok (.putfield 7, 3) := by decide +kernel
theorem kd_M_init_13 : decode b_M_init 13 = .ok (.aload_n 0, 1) := by decide +kernel
theorem kd_M_init_14 : decode b_M_init 14 = .ok (.bipush 8, 2) := by decide +kernel
theorem kd_M_init_16 : decode b_M_init 16 = .ok (.newarray .int, 2) := by decide +kernel
theorem kd_M_init_18 : decode b_M_init 18 = .ok (.putfield 13, 3) := by decide +kernel
theorem kd_M_init_21 : decode b_M_init 21 = .ok (.aload_n 0, 1) := by decide +kernel
theorem kd_M_init_22 : decode b_M_init 22 = .ok (.bipush 8, 2) := by decide +kernel
theorem kd_M_init_24 : decode b_M_init 24 = .ok (.newarray .int, 2) := by decide +kernel
theorem kd_M_init_26 : decode b_M_init 26 = .ok (.putfield 16, 3) := by decide +kernel
theorem kd_M_init_29 : decode b_M_init 29 = .ok (.aload_n 0, 1) := by decide +kernel
theorem kd_M_init_30 : decode b_M_init 30 = .ok (.iconst 1, 1) := by decide +kernel
theorem kd_M_init_31 : decode b_M_init 31 = .ok (.putfield 19, 3) := by decide +kernel
theorem kd_M_init_34 : decode b_M_init 34 = .ok (.aload_n 0, 1) := by decide +kernel
theorem kd_M_init_35 : decode b_M_init 35 = .ok (.bipush 7, 2) := by decide +kernel
theorem kd_M_init_37 : decode b_M_init 37 = .ok (.putfield 23, 3) := by decide +kernel
theorem kd_M_init_40 : decode b_M_init 40 = .ok (.aload_n 0, 1) := by decide +kernel
theorem kd_M_init_41 : decode b_M_init 41 = .ok (.sipush 256, 3) := by decide +kernel
theorem kd_M_init_44 : decode b_M_init 44 = .ok (.putfield 26, 3) := by decide +kernel
theorem kd_M_init_47 : decode b_M_init 47 = .ok (.aload_n 0, 1) := by decide +kernel
theorem kd_M_init_48 : decode b_M_init 48 = .ok (.iconst (-1), 1) := by decide +kernel
theorem kd_M_init_49 : decode b_M_init 49 = .ok (.putfield 29, 3) := by decide +kernel
theorem kd_M_init_52 : decode b_M_init 52 = .ok (.aload_n 0, 1) := by decide +kernel
theorem kd_M_init_53 : decode b_M_init 53 = .ok (.iconst (-1), 1) := by decide +kernel
theorem kd_M_init_54 : decode b_M_init 54 = .ok (.putfield 32, 3) := by decide +kernel
theorem kd_M_init_57 : decode b_M_init 57 = .ok (.aload_n 0, 1) := by decide +kernel
theorem kd_M_init_58 : decode b_M_init 58 = .ok (.bipush 16, 2) := by decide +kernel
theorem kd_M_init_60 : decode b_M_init 60 = .ok (.newarray .int, 2) := by decide +kernel
theorem kd_M_init_62 : decode b_M_init 62 = .ok (.putfield 35, 3) := by decide +kernel
theorem kd_M_init_65 : decode b_M_init 65 = .ok (.return_, 1) := by decide +kernel
theorem kw_775 : (Jvm.Cond.methodLink "FrameMachineModel" (1 : Nat) ({ cls := "java/lang/Object", name := "<init>", desc := "()V" } : Jvm.MethodName)) ∈ lw_tbl := zk_4 (List.mem_of_getElem? (i := 55) rfl)
def zp_M_init (h0 : Nat)  (u : Nat × Nat × Nat × Nat × Nat × Nat × Nat × Nat) : va_W := [(h0, .inr (10, [.int 0, .ref u.1, .ref u.2.2.1, .ref u.2.2.2.2.1, .int 0, .int 0, .int 0, .int 1, .int 7, .int 0, .int 0, .int 0, .int 0, .int 0, .int 0, .int 0, .int 0, .int 0, .int 0, .int 0, .int 0, .int 0, .int 0, .int 0, .int 0, .int 256, .int 0, .int 0, .int 0, .int (-1), .int 0, .int (-1), .int 0, .int 0, .ref u.2.2.2.2.2.2.1])), (u.1, .inl (u.2.1, 1024, .inl (fun _ => 0))), (u.2.2.1, .inl (u.2.2.2.1, 8, .inl (fun _ => 0))), (u.2.2.2.2.1, .inl (u.2.2.2.2.2.1, 8, .inl (fun _ => 0))), (u.2.2.2.2.2.2.1, .inl (u.2.2.2.2.2.2.2, 16, .inl (fun _ => 0)))]
def zq_M_init (u : Nat × Nat × Nat × Nat × Nat × Nat × Nat × Nat) : List (ClassId × FieldType) := [(u.2.1, .int), (u.2.2.2.1, .int), (u.2.2.2.2.2.1, .int), (u.2.2.2.2.2.2.2, .int)]
theorem c_M_init (l : Launch) (D : va_G) (h0 : Nat)  (sz : Nat) : Met l y_M_init (Cond.code y_M_init b_M_init 1 none :: zw_w) ({ frames := 1, cells := 4, slots := 1056, locals := 12 }) (va_Pc [.ref h0] (fun U => U.heap.size = sz ∧ va_P D zq_cl [(h0, .inr (10, [.int 0, .null, .null, .null, .int 0, .int 0, .int 0, .int 0, .int 0, .int 0, .int 0, .int 0, .int 0, .int 0, .int 0, .int 0, .int 0, .int 0, .int 0, .int 0, .int 0, .int 0, .int 0, .int 0, .int 0, .int 0, .int 0, .int 0, .int 0, .int 0, .int 0, .int 0, .int 0, .int 0, .null]))] U.heap ∧ va_K D zq_cl [] U ∧ va_D (fun _ => True) [(h0, .inr (10, [.int 0, .null, .null, .null, .int 0, .int 0, .int 0, .int 0, .int 0, .int 0, .int 0, .int 0, .int 0, .int 0, .int 0, .int 0, .int 0, .int 0, .int 0, .int 0, .int 0, .int 0, .int 0, .int 0, .int 0, .int 0, .int 0, .int 0, .int 0, .int 0, .int 0, .int 0, .int 0, .int 0, .null]))] ∧ zw_N U)) (va_Qv (fun _ : Nat × Nat × Nat × Nat × Nat × Nat × Nat × Nat => True) (fun u t => va_P D zq_cl (zp_M_init h0  u) t.heap ∧ va_K D zq_cl (zq_M_init u) t ∧ va_D (va_A [(h0, .inr (10, [.int 0, .null, .null, .null, .int 0, .int 0, .int 0, .int 0, .int 0, .int 0, .int 0, .int 0, .int 0, .int 0, .int 0, .int 0, .int 0, .int 0, .int 0, .int 0, .int 0, .int 0, .int 0, .int 0, .int 0, .int 0, .int 0, .int 0, .int 0, .int 0, .int 0, .int 0, .int 0, .int 0, .null]))] sz) (zp_M_init h0  u)) (va_A [(h0, .inr (10, [.int 0, .null, .null, .null, .int 0, .int 0, .int 0, .int 0, .int 0, .int 0, .int 0, .int 0, .int 0, .int 0, .int 0, .int 0, .int 0, .int 0, .int 0, .int 0, .int 0, .int 0, .int 0, .int 0, .int 0, .int 0, .int 0, .int 0, .int 0, .int 0, .int 0, .int 0, .int 0, .int 0, .null]))] sz)) 4 1056 (va_A [(h0, .inr (10, [.int 0, .null, .null, .null, .int 0, .int 0, .int 0, .int 0, .int 0, .int 0, .int 0, .int 0, .int 0, .int 0, .int 0, .int 0, .int 0, .int 0, .int 0, .int 0, .int 0, .int 0, .int 0, .int 0, .int 0, .int 0, .int 0, .int 0, .int 0, .int 0, .int 0, .int 0, .int 0, .int 0, .null]))] sz) := by
  refine Met.ofW (cc := b_M_init) (maxL := 1) (ret := none) (by decide +kernel) rfl ?_
  intro p e s m args below meth c s₁ B hml hv
  obtain ⟨rfl, hsz, hP, hK, hD0, hN⟩ := hv
  have hx := B.exec
  have hb := B.bytes
  have hr := B.returns
  have hts := atoms_spec (ws := Cond.code y_M_init b_M_init 1 none :: zw_w) B.pre
  have ht : ∀ w ∈ zw_w, w.before _ s = true := fun w hw => hts w (List.mem_cons_of_mem _ hw)
  have hown : s.vm.findClass "FrameMachineModel" = some m.cls := findClass_of_methodNamed B.named
  have hlocks := B.notSynchronized
  have hin : meth.name = "<init>" := (name_of_methodNamed B.named B.method).1
  subst hsz
  have hD := hD0.self (sz := s.heap.size)
  generalize hAe : va_A [(h0, .inr (10, [.int 0, .null, .null, .null, .int 0, .int 0, .int 0, .int 0, .int 0, .int 0, .int 0, .int 0, .int 0, .int 0, .int 0, .int 0, .int 0, .int 0, .int 0, .int 0, .int 0, .int 0, .int 0, .int 0, .int 0, .int 0, .int 0, .int 0, .int 0, .int 0, .int 0, .int 0, .int 0, .int 0, .null]))] s.heap.size = A at hD ⊢
  have hA : ∀ q : Nat, s.heap.size ≤ q → A q := fun q h => by rw [← hAe]; exact Or.inr h
  have hS : va_S A s.heap s.heap [] := va_S.rf
  have hl := lv_entry ([.ref h0]) (n := 1) (Nat.le_of_ble_eq_true rfl)
  rw [lg_entry_eq]
  generalize (lg_sl ([.ref h0]) ++ List.replicate (1 - (lg_sl ([.ref h0])).length) Slot.unset).toArray = ls at hl ⊢
  have hl : lv_has ls 1 [(0, .ref h0)] := hl
  refine lv_aload_n hx hb kd_M_init_0 rfl (lv_at hl 0 rfl) ?_
  refine W.objInit hx hb hown (ht _ (zw_in kw_775 rfl)) (ht _ (zw_in kw_22 rfl)) (ht _ (zw_in kw_23 rfl)) rfl (by rw [hml]; exact hl.1) rfl kd_M_init_1 (Nat.le_of_ble_eq_true rfl) (Nat.le_of_ble_eq_true rfl) ?_
  refine W.eq (g2 := F0 m 4 ls []) rfl ?_
  refine lv_aload_n hx hb kd_M_init_4 rfl (lv_at hl 0 rfl) ?_
  refine lv_sipush (v := 1024) hx hb kd_M_init_5 ks_1024 ?_
  refine va_newa (atype := .int) (ty := .int) (a0 := (1024, .inl (fun _ => 0))) hx hb (ht _ (zw_in kw_66 rfl)) rfl hK hP hD hS hA (fun cA => rfl) (by decide) (by decide) (by decide) (Nat.le_of_ble_eq_true rfl) (Nat.le_of_ble_eq_true rfl) kd_M_init_8 (fun q8 c8 H hK hP hD hS => ?_)
  have hK : va_K D zq_cl [(c8, .int)] s := hK
  have hP : va_P D zq_cl [(h0, .inr (10, [.int 0, .null, .null, .null, .int 0, .int 0, .int 0, .int 0, .int 0, .int 0, .int 0, .int 0, .int 0, .int 0, .int 0, .int 0, .int 0, .int 0, .int 0, .int 0, .int 0, .int 0, .int 0, .int 0, .int 0, .int 0, .int 0, .int 0, .int 0, .int 0, .int 0, .int 0, .int 0, .int 0, .null])), (q8, .inl (c8, 1024, .inl (fun _ => 0)))] H := hP
  have hD : va_D A [(h0, .inr (10, [.int 0, .null, .null, .null, .int 0, .int 0, .int 0, .int 0, .int 0, .int 0, .int 0, .int 0, .int 0, .int 0, .int 0, .int 0, .int 0, .int 0, .int 0, .int 0, .int 0, .int 0, .int 0, .int 0, .int 0, .int 0, .int 0, .int 0, .int 0, .int 0, .int 0, .int 0, .int 0, .int 0, .null])), (q8, .inl (c8, 1024, .inl (fun _ => 0)))] := hD
  refine W.widen (k := 1) (n := 1024) (by omega) (by omega) ?_
  refine va_putF (D := D) (ci := 10) (v := .ref q8) (ty := (.array .int)) (C := "FrameMachineModel") (T := zT_M) (N := 35) hx hb ht zi_M zt_M zto_M zn_M hown hK hP hD hS 0 rfl rfl 1 (by decide) (ht _ (zw_in kw_777 rfl)) (fun _ h9 => h9) rfl hin rfl (by decide +kernel) rfl rfl (Nat.le_of_ble_eq_true rfl) kd_M_init_10 (fun H locs hP hD hS => ?_)
  have hP : va_P D zq_cl [(h0, .inr (10, [.int 0, .ref q8, .null, .null, .int 0, .int 0, .int 0, .int 0, .int 0, .int 0, .int 0, .int 0, .int 0, .int 0, .int 0, .int 0, .int 0, .int 0, .int 0, .int 0, .int 0, .int 0, .int 0, .int 0, .int 0, .int 0, .int 0, .int 0, .int 0, .int 0, .int 0, .int 0, .int 0, .int 0, .null])), (q8, .inl (c8, 1024, .inl (fun _ => 0)))] H := hP
  have hD : va_D A [(h0, .inr (10, [.int 0, .ref q8, .null, .null, .int 0, .int 0, .int 0, .int 0, .int 0, .int 0, .int 0, .int 0, .int 0, .int 0, .int 0, .int 0, .int 0, .int 0, .int 0, .int 0, .int 0, .int 0, .int 0, .int 0, .int 0, .int 0, .int 0, .int 0, .int 0, .int 0, .int 0, .int 0, .int 0, .int 0, .null])), (q8, .inl (c8, 1024, .inl (fun _ => 0)))] := hD
  refine lv_aload_n hx hb kd_M_init_13 rfl (lv_at hl 0 rfl) ?_
  refine lv_bipush (v := 8) hx hb kd_M_init_14 kb_8 ?_
  refine va_newa (atype := .int) (ty := .int) (a0 := (8, .inl (fun _ => 0))) hx hb (ht _ (zw_in kw_66 rfl)) rfl hK hP hD hS hA (fun cA => rfl) (by decide) (by decide) (by decide) (Nat.le_of_ble_eq_true rfl) (Nat.le_of_ble_eq_true rfl) kd_M_init_16 (fun q16 c16 H hK hP hD hS => ?_)
  have hK : va_K D zq_cl [(c8, .int), (c16, .int)] s := hK
  have hP : va_P D zq_cl [(h0, .inr (10, [.int 0, .ref q8, .null, .null, .int 0, .int 0, .int 0, .int 0, .int 0, .int 0, .int 0, .int 0, .int 0, .int 0, .int 0, .int 0, .int 0, .int 0, .int 0, .int 0, .int 0, .int 0, .int 0, .int 0, .int 0, .int 0, .int 0, .int 0, .int 0, .int 0, .int 0, .int 0, .int 0, .int 0, .null])), (q8, .inl (c8, 1024, .inl (fun _ => 0))), (q16, .inl (c16, 8, .inl (fun _ => 0)))] H := hP
  have hD : va_D A [(h0, .inr (10, [.int 0, .ref q8, .null, .null, .int 0, .int 0, .int 0, .int 0, .int 0, .int 0, .int 0, .int 0, .int 0, .int 0, .int 0, .int 0, .int 0, .int 0, .int 0, .int 0, .int 0, .int 0, .int 0, .int 0, .int 0, .int 0, .int 0, .int 0, .int 0, .int 0, .int 0, .int 0, .int 0, .int 0, .null])), (q8, .inl (c8, 1024, .inl (fun _ => 0))), (q16, .inl (c16, 8, .inl (fun _ => 0)))] := hD
  refine W.widen (k := 2) (n := 1032) (by omega) (by omega) ?_
  refine va_putF (D := D) (ci := 10) (v := .ref q16) (ty := (.array .int)) (C := "FrameMachineModel") (T := zT_M) (N := 35) hx hb ht zi_M zt_M zto_M zn_M hown hK hP hD hS 0 rfl rfl 2 (by decide) (ht _ (zw_in kw_778 rfl)) (fun _ h9 => h9) rfl hin rfl (by decide +kernel) rfl rfl (Nat.le_of_ble_eq_true rfl) kd_M_init_18 (fun H locs hP hD hS => ?_)
  have hP : va_P D zq_cl [(h0, .inr (10, [.int 0, .ref q8, .ref q16, .null, .int 0, .int 0, .int 0, .int 0, .int 0, .int 0, .int 0, .int 0, .int 0, .int 0, .int 0, .int 0, .int 0, .int 0, .int 0, .int 0, .int 0, .int 0, .int 0, .int 0, .int 0, .int 0, .int 0, .int 0, .int 0, .int 0, .int 0, .int 0, .int 0, .int 0, .null])), (q8, .inl (c8, 1024, .inl (fun _ => 0))), (q16, .inl (c16, 8, .inl (fun _ => 0)))] H := hP
  have hD : va_D A [(h0, .inr (10, [.int 0, .ref q8, .ref q16, .null, .int 0, .int 0, .int 0, .int 0, .int 0, .int 0, .int 0, .int 0, .int 0, .int 0, .int 0, .int 0, .int 0, .int 0, .int 0, .int 0, .int 0, .int 0, .int 0, .int 0, .int 0, .int 0, .int 0, .int 0, .int 0, .int 0, .int 0, .int 0, .int 0, .int 0, .null])), (q8, .inl (c8, 1024, .inl (fun _ => 0))), (q16, .inl (c16, 8, .inl (fun _ => 0)))] := hD
  refine lv_aload_n hx hb kd_M_init_21 rfl (lv_at hl 0 rfl) ?_
  refine lv_bipush (v := 8) hx hb kd_M_init_22 kb_8 ?_
  refine va_newa (atype := .int) (ty := .int) (a0 := (8, .inl (fun _ => 0))) hx hb (ht _ (zw_in kw_66 rfl)) rfl hK hP hD hS hA (fun cA => rfl) (by decide) (by decide) (by decide) (Nat.le_of_ble_eq_true rfl) (Nat.le_of_ble_eq_true rfl) kd_M_init_24 (fun q24 c24 H hK hP hD hS => ?_)
  have hK : va_K D zq_cl [(c8, .int), (c16, .int), (c24, .int)] s := hK
  have hP : va_P D zq_cl [(h0, .inr (10, [.int 0, .ref q8, .ref q16, .null, .int 0, .int 0, .int 0, .int 0, .int 0, .int 0, .int 0, .int 0, .int 0, .int 0, .int 0, .int 0, .int 0, .int 0, .int 0, .int 0, .int 0, .int 0, .int 0, .int 0, .int 0, .int 0, .int 0, .int 0, .int 0, .int 0, .int 0, .int 0, .int 0, .int 0, .null])), (q8, .inl (c8, 1024, .inl (fun _ => 0))), (q16, .inl (c16, 8, .inl (fun _ => 0))), (q24, .inl (c24, 8, .inl (fun _ => 0)))] H := hP
  have hD : va_D A [(h0, .inr (10, [.int 0, .ref q8, .ref q16, .null, .int 0, .int 0, .int 0, .int 0, .int 0, .int 0, .int 0, .int 0, .int 0, .int 0, .int 0, .int 0, .int 0, .int 0, .int 0, .int 0, .int 0, .int 0, .int 0, .int 0, .int 0, .int 0, .int 0, .int 0, .int 0, .int 0, .int 0, .int 0, .int 0, .int 0, .null])), (q8, .inl (c8, 1024, .inl (fun _ => 0))), (q16, .inl (c16, 8, .inl (fun _ => 0))), (q24, .inl (c24, 8, .inl (fun _ => 0)))] := hD
  refine W.widen (k := 3) (n := 1040) (by omega) (by omega) ?_
  refine va_putF (D := D) (ci := 10) (v := .ref q24) (ty := (.array .int)) (C := "FrameMachineModel") (T := zT_M) (N := 35) hx hb ht zi_M zt_M zto_M zn_M hown hK hP hD hS 0 rfl rfl 3 (by decide) (ht _ (zw_in kw_779 rfl)) (fun _ h9 => h9) rfl hin rfl (by decide +kernel) rfl rfl (Nat.le_of_ble_eq_true rfl) kd_M_init_26 (fun H locs hP hD hS => ?_)
  have hP : va_P D zq_cl [(h0, .inr (10, [.int 0, .ref q8, .ref q16, .ref q24, .int 0, .int 0, .int 0, .int 0, .int 0, .int 0, .int 0, .int 0, .int 0, .int 0, .int 0, .int 0, .int 0, .int 0, .int 0, .int 0, .int 0, .int 0, .int 0, .int 0, .int 0, .int 0, .int 0, .int 0, .int 0, .int 0, .int 0, .int 0, .int 0, .int 0, .null])), (q8, .inl (c8, 1024, .inl (fun _ => 0))), (q16, .inl (c16, 8, .inl (fun _ => 0))), (q24, .inl (c24, 8, .inl (fun _ => 0)))] H := hP
  have hD : va_D A [(h0, .inr (10, [.int 0, .ref q8, .ref q16, .ref q24, .int 0, .int 0, .int 0, .int 0, .int 0, .int 0, .int 0, .int 0, .int 0, .int 0, .int 0, .int 0, .int 0, .int 0, .int 0, .int 0, .int 0, .int 0, .int 0, .int 0, .int 0, .int 0, .int 0, .int 0, .int 0, .int 0, .int 0, .int 0, .int 0, .int 0, .null])), (q8, .inl (c8, 1024, .inl (fun _ => 0))), (q16, .inl (c16, 8, .inl (fun _ => 0))), (q24, .inl (c24, 8, .inl (fun _ => 0)))] := hD
  refine lv_aload_n hx hb kd_M_init_29 rfl (lv_at hl 0 rfl) ?_
  refine lv_iconst (v := 1) hx hb kd_M_init_30 ki_1 ?_
  refine va_put (D := D) (ci := 10) (v := .int 1) (ty := .int) (C := "FrameMachineModel") (T := zT_M) (N := 35) hx hb ht zi_M zt_M zto_M zn_M hown hK hP hD hS 0 rfl rfl 7 (by decide) (ht _ (zw_in kw_783 rfl)) (fun _ h9 => h9) rfl (by decide +kernel) rfl rfl (Nat.le_of_ble_eq_true rfl) kd_M_init_31 (fun H locs hP hD hS => ?_)
  have hP : va_P D zq_cl [(h0, .inr (10, [.int 0, .ref q8, .ref q16, .ref q24, .int 0, .int 0, .int 0, .int 1, .int 0, .int 0, .int 0, .int 0, .int 0, .int 0, .int 0, .int 0, .int 0, .int 0, .int 0, .int 0, .int 0, .int 0, .int 0, .int 0, .int 0, .int 0, .int 0, .int 0, .int 0, .int 0, .int 0, .int 0, .int 0, .int 0, .null])), (q8, .inl (c8, 1024, .inl (fun _ => 0))), (q16, .inl (c16, 8, .inl (fun _ => 0))), (q24, .inl (c24, 8, .inl (fun _ => 0)))] H := hP
  have hD : va_D A [(h0, .inr (10, [.int 0, .ref q8, .ref q16, .ref q24, .int 0, .int 0, .int 0, .int 1, .int 0, .int 0, .int 0, .int 0, .int 0, .int 0, .int 0, .int 0, .int 0, .int 0, .int 0, .int 0, .int 0, .int 0, .int 0, .int 0, .int 0, .int 0, .int 0, .int 0, .int 0, .int 0, .int 0, .int 0, .int 0, .int 0, .null])), (q8, .inl (c8, 1024, .inl (fun _ => 0))), (q16, .inl (c16, 8, .inl (fun _ => 0))), (q24, .inl (c24, 8, .inl (fun _ => 0)))] := hD
  refine lv_aload_n hx hb kd_M_init_34 rfl (lv_at hl 0 rfl) ?_
  refine lv_bipush (v := 7) hx hb kd_M_init_35 kb_7 ?_
  refine va_put (D := D) (ci := 10) (v := .int 7) (ty := .int) (C := "FrameMachineModel") (T := zT_M) (N := 35) hx hb ht zi_M zt_M zto_M zn_M hown hK hP hD hS 0 rfl rfl 8 (by decide) (ht _ (zw_in kw_784 rfl)) (fun _ h9 => h9) rfl (by decide +kernel) rfl rfl (Nat.le_of_ble_eq_true rfl) kd_M_init_37 (fun H locs hP hD hS => ?_)
  have hP : va_P D zq_cl [(h0, .inr (10, [.int 0, .ref q8, .ref q16, .ref q24, .int 0, .int 0, .int 0, .int 1, .int 7, .int 0, .int 0, .int 0, .int 0, .int 0, .int 0, .int 0, .int 0, .int 0, .int 0, .int 0, .int 0, .int 0, .int 0, .int 0, .int 0, .int 0, .int 0, .int 0, .int 0, .int 0, .int 0, .int 0, .int 0, .int 0, .null])), (q8, .inl (c8, 1024, .inl (fun _ => 0))), (q16, .inl (c16, 8, .inl (fun _ => 0))), (q24, .inl (c24, 8, .inl (fun _ => 0)))] H := hP
  have hD : va_D A [(h0, .inr (10, [.int 0, .ref q8, .ref q16, .ref q24, .int 0, .int 0, .int 0, .int 1, .int 7, .int 0, .int 0, .int 0, .int 0, .int 0, .int 0, .int 0, .int 0, .int 0, .int 0, .int 0, .int 0, .int 0, .int 0, .int 0, .int 0, .int 0, .int 0, .int 0, .int 0, .int 0, .int 0, .int 0, .int 0, .int 0, .null])), (q8, .inl (c8, 1024, .inl (fun _ => 0))), (q16, .inl (c16, 8, .inl (fun _ => 0))), (q24, .inl (c24, 8, .inl (fun _ => 0)))] := hD
  refine lv_aload_n hx hb kd_M_init_40 rfl (lv_at hl 0 rfl) ?_
  refine lv_sipush (v := 256) hx hb kd_M_init_41 ks_256 ?_
  refine va_put (D := D) (ci := 10) (v := .int 256) (ty := .int) (C := "FrameMachineModel") (T := zT_M) (N := 35) hx hb ht zi_M zt_M zto_M zn_M hown hK hP hD hS 0 rfl rfl 25 (by decide) (ht _ (zw_in kw_801 rfl)) (fun _ h9 => h9) rfl (by decide +kernel) rfl rfl (Nat.le_of_ble_eq_true rfl) kd_M_init_44 (fun H locs hP hD hS => ?_)
  have hP : va_P D zq_cl [(h0, .inr (10, [.int 0, .ref q8, .ref q16, .ref q24, .int 0, .int 0, .int 0, .int 1, .int 7, .int 0, .int 0, .int 0, .int 0, .int 0, .int 0, .int 0, .int 0, .int 0, .int 0, .int 0, .int 0, .int 0, .int 0, .int 0, .int 0, .int 256, .int 0, .int 0, .int 0, .int 0, .int 0, .int 0, .int 0, .int 0, .null])), (q8, .inl (c8, 1024, .inl (fun _ => 0))), (q16, .inl (c16, 8, .inl (fun _ => 0))), (q24, .inl (c24, 8, .inl (fun _ => 0)))] H := hP
  have hD : va_D A [(h0, .inr (10, [.int 0, .ref q8, .ref q16, .ref q24, .int 0, .int 0, .int 0, .int 1, .int 7, .int 0, .int 0, .int 0, .int 0, .int 0, .int 0, .int 0, .int 0, .int 0, .int 0, .int 0, .int 0, .int 0, .int 0, .int 0, .int 0, .int 256, .int 0, .int 0, .int 0, .int 0, .int 0, .int 0, .int 0, .int 0, .null])), (q8, .inl (c8, 1024, .inl (fun _ => 0))), (q16, .inl (c16, 8, .inl (fun _ => 0))), (q24, .inl (c24, 8, .inl (fun _ => 0)))] := hD
  refine lv_aload_n hx hb kd_M_init_47 rfl (lv_at hl 0 rfl) ?_
  refine lv_iconst (v := (-1)) hx hb kd_M_init_48 ki_m1 ?_
  refine va_put (D := D) (ci := 10) (v := .int (-1)) (ty := .int) (C := "FrameMachineModel") (T := zT_M) (N := 35) hx hb ht zi_M zt_M zto_M zn_M hown hK hP hD hS 0 rfl rfl 29 (by decide) (ht _ (zw_in kw_805 rfl)) (fun _ h9 => h9) rfl (by decide +kernel) rfl rfl (Nat.le_of_ble_eq_true rfl) kd_M_init_49 (fun H locs hP hD hS => ?_)
  have hP : va_P D zq_cl [(h0, .inr (10, [.int 0, .ref q8, .ref q16, .ref q24, .int 0, .int 0, .int 0, .int 1, .int 7, .int 0, .int 0, .int 0, .int 0, .int 0, .int 0, .int 0, .int 0, .int 0, .int 0, .int 0, .int 0, .int 0, .int 0, .int 0, .int 0, .int 256, .int 0, .int 0, .int 0, .int (-1), .int 0, .int 0, .int 0, .int 0, .null])), (q8, .inl (c8, 1024, .inl (fun _ => 0))), (q16, .inl (c16, 8, .inl (fun _ => 0))), (q24, .inl (c24, 8, .inl (fun _ => 0)))] H := hP
  have hD : va_D A [(h0, .inr (10, [.int 0, .ref q8, .ref q16, .ref q24, .int 0, .int 0, .int 0, .int 1, .int 7, .int 0, .int 0, .int 0, .int 0, .int 0, .int 0, .int 0, .int 0, .int 0, .int 0, .int 0, .int 0, .int 0, .int 0, .int 0, .int 0, .int 256, .int 0, .int 0, .int 0, .int (-1), .int 0, .int 0, .int 0, .int 0, .null])), (q8, .inl (c8, 1024, .inl (fun _ => 0))), (q16, .inl (c16, 8, .inl (fun _ => 0))), (q24, .inl (c24, 8, .inl (fun _ => 0)))] := hD
  refine lv_aload_n hx hb kd_M_init_52 rfl (lv_at hl 0 rfl) ?_
  refine lv_iconst (v := (-1)) hx hb kd_M_init_53 ki_m1 ?_
  refine va_put (D := D) (ci := 10) (v := .int (-1)) (ty := .int) (C := "FrameMachineModel") (T := zT_M) (N := 35) hx hb ht zi_M zt_M zto_M zn_M hown hK hP hD hS 0 rfl rfl 31 (by decide) (ht _ (zw_in kw_807 rfl)) (fun _ h9 => h9) rfl (by decide +kernel) rfl rfl (Nat.le_of_ble_eq_true rfl) kd_M_init_54 (fun H locs hP hD hS => ?_)
  have hP : va_P D zq_cl [(h0, .inr (10, [.int 0, .ref q8, .ref q16, .ref q24, .int 0, .int 0, .int 0, .int 1, .int 7, .int 0, .int 0, .int 0, .int 0, .int 0, .int 0, .int 0, .int 0, .int 0, .int 0, .int 0, .int 0, .int 0, .int 0, .int 0, .int 0, .int 256, .int 0, .int 0, .int 0, .int (-1), .int 0, .int (-1), .int 0, .int 0, .null])), (q8, .inl (c8, 1024, .inl (fun _ => 0))), (q16, .inl (c16, 8, .inl (fun _ => 0))), (q24, .inl (c24, 8, .inl (fun _ => 0)))] H := hP
  have hD : va_D A [(h0, .inr (10, [.int 0, .ref q8, .ref q16, .ref q24, .int 0, .int 0, .int 0, .int 1, .int 7, .int 0, .int 0, .int 0, .int 0, .int 0, .int 0, .int 0, .int 0, .int 0, .int 0, .int 0, .int 0, .int 0, .int 0, .int 0, .int 0, .int 256, .int 0, .int 0, .int 0, .int (-1), .int 0, .int (-1), .int 0, .int 0, .null])), (q8, .inl (c8, 1024, .inl (fun _ => 0))), (q16, .inl (c16, 8, .inl (fun _ => 0))), (q24, .inl (c24, 8, .inl (fun _ => 0)))] := hD
  refine lv_aload_n hx hb kd_M_init_57 rfl (lv_at hl 0 rfl) ?_
  refine lv_bipush (v := 16) hx hb kd_M_init_58 kb_16 ?_
  refine va_newa (atype := .int) (ty := .int) (a0 := (16, .inl (fun _ => 0))) hx hb (ht _ (zw_in kw_66 rfl)) rfl hK hP hD hS hA (fun cA => rfl) (by decide) (by decide) (by decide) (Nat.le_of_ble_eq_true rfl) (Nat.le_of_ble_eq_true rfl) kd_M_init_60 (fun q60 c60 H hK hP hD hS => ?_)
  have hK : va_K D zq_cl [(c8, .int), (c16, .int), (c24, .int), (c60, .int)] s := hK
  have hP : va_P D zq_cl [(h0, .inr (10, [.int 0, .ref q8, .ref q16, .ref q24, .int 0, .int 0, .int 0, .int 1, .int 7, .int 0, .int 0, .int 0, .int 0, .int 0, .int 0, .int 0, .int 0, .int 0, .int 0, .int 0, .int 0, .int 0, .int 0, .int 0, .int 0, .int 256, .int 0, .int 0, .int 0, .int (-1), .int 0, .int (-1), .int 0, .int 0, .null])), (q8, .inl (c8, 1024, .inl (fun _ => 0))), (q16, .inl (c16, 8, .inl (fun _ => 0))), (q24, .inl (c24, 8, .inl (fun _ => 0))), (q60, .inl (c60, 16, .inl (fun _ => 0)))] H := hP
  have hD : va_D A [(h0, .inr (10, [.int 0, .ref q8, .ref q16, .ref q24, .int 0, .int 0, .int 0, .int 1, .int 7, .int 0, .int 0, .int 0, .int 0, .int 0, .int 0, .int 0, .int 0, .int 0, .int 0, .int 0, .int 0, .int 0, .int 0, .int 0, .int 0, .int 256, .int 0, .int 0, .int 0, .int (-1), .int 0, .int (-1), .int 0, .int 0, .null])), (q8, .inl (c8, 1024, .inl (fun _ => 0))), (q16, .inl (c16, 8, .inl (fun _ => 0))), (q24, .inl (c24, 8, .inl (fun _ => 0))), (q60, .inl (c60, 16, .inl (fun _ => 0)))] := hD
  refine W.widen (k := 4) (n := 1056) (by omega) (by omega) ?_
  refine va_putF (D := D) (ci := 10) (v := .ref q60) (ty := (.array .int)) (C := "FrameMachineModel") (T := zT_M) (N := 35) hx hb ht zi_M zt_M zto_M zn_M hown hK hP hD hS 0 rfl rfl 34 (by decide) (ht _ (zw_in kw_810 rfl)) (fun _ h9 => h9) rfl hin rfl (by decide +kernel) rfl rfl (Nat.le_of_ble_eq_true rfl) kd_M_init_62 (fun H locs hP hD hS => ?_)
  have hP : va_P D zq_cl [(h0, .inr (10, [.int 0, .ref q8, .ref q16, .ref q24, .int 0, .int 0, .int 0, .int 1, .int 7, .int 0, .int 0, .int 0, .int 0, .int 0, .int 0, .int 0, .int 0, .int 0, .int 0, .int 0, .int 0, .int 0, .int 0, .int 0, .int 0, .int 256, .int 0, .int 0, .int 0, .int (-1), .int 0, .int (-1), .int 0, .int 0, .ref q60])), (q8, .inl (c8, 1024, .inl (fun _ => 0))), (q16, .inl (c16, 8, .inl (fun _ => 0))), (q24, .inl (c24, 8, .inl (fun _ => 0))), (q60, .inl (c60, 16, .inl (fun _ => 0)))] H := hP
  have hD : va_D A [(h0, .inr (10, [.int 0, .ref q8, .ref q16, .ref q24, .int 0, .int 0, .int 0, .int 1, .int 7, .int 0, .int 0, .int 0, .int 0, .int 0, .int 0, .int 0, .int 0, .int 0, .int 0, .int 0, .int 0, .int 0, .int 0, .int 0, .int 0, .int 256, .int 0, .int 0, .int 0, .int (-1), .int 0, .int (-1), .int 0, .int 0, .ref q60])), (q8, .inl (c8, 1024, .inl (fun _ => 0))), (q16, .inl (c16, 8, .inl (fun _ => 0))), (q24, .inl (c24, 8, .inl (fun _ => 0))), (q60, .inl (c60, 16, .inl (fun _ => 0)))] := hD
  exact W.vret hx hb hr (fun t ht2 hW => ⟨⟨(q8, c8, q16, c16, q24, c24, q60, c60), rfl, trivial, (by show va_P _ _ _ t.heap; rw [ht2]; exact hP), va_K.moved hW.alike hK, hD⟩, hS.F ht2⟩) hS.2.2 kd_M_init_65 (hlocks := hlocks)
