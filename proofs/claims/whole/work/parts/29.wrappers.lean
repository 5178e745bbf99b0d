/-! The law's six wrappers: each calls a method that may throw, lays its answer into out, and tells whether it threw. -/
def zl_ws (P : ZP) (ao : Nat) (cJ : ClassId) (σ : ZS) : va_W := zc_ws P σ ++ [(ao, .inl (cJ, 1, .inr (.inl (fun _ => (σ 5 0).toInt64))))]
def zlV (P : ZP) (ao : Nat) (cJ : ClassId) : ZV := (zl_ws P ao cJ, P.2.1, zc_cl, [(P.2.2.1, .int), (P.2.2.2, .byte), (cJ, .long)], fun q => zc_A P q ∨ q = ao, zc_T P)
def zs_mix (τ σ : ZS) : ZS := fun a b => if a = 5 then σ a b else τ a b
def zr_b (σ : ZS) (z : Option Int32 × ZS) : Int32 × ZS := match z.1 with
  | some v => (0, zs_up (zs_mix z.2 σ) 5 0 (if v = 0 then 0 else 1))
  | none => (1, zs_mix z.2 σ)
def zr_i (σ : ZS) (z : Option Int32 × ZS) : Int32 × ZS := match z.1 with
  | some v => (0, zs_up (zs_mix z.2 σ) 5 0 v)
  | none => (1, zs_mix z.2 σ)
def zMw (l : Launch) (y : MethodName) (cc : ByteArray) (nL : Nat) (hh : List (Nat × Nat × Nat × Nat)) (fr lo : Nat) (V : ZV) (σ : ZS) (sz : Nat) (av : List Value) (z : Int32 × ZS) : Prop :=
  Met l y (Cond.codeWith y cc nL (some .int) hh :: zw_w) ({ frames := fr, cells := 1, slots := 6, locals := lo }) (zPt V σ sz av) (va_Qi (fun (r : Int32) (u : ZS) => r = z.1 ∧ u = z.2) (fun u t => va_P V.2.1 V.2.2.1 (V.1 u) t.heap) (zA V sz)) 1 6 (zA V sz)
theorem zi_in : vp_in 0 1 := by unfold vp_in; decide
theorem zl_D {P : ZP} {ao : Nat} {cJ : ClassId} (hV : ZVok (zcV P)) (hao : ¬ zc_A P ao) (σ : ZS) : va_D (fun q => zc_A P q ∨ q = ao) (zl_ws P ao cJ σ) := by
  refine va_D.app ((hV.1 σ).weaken (fun _ _ _ h => Or.inl h)) ⟨fun i j p q h1 h2 _ => ?_, fun k q h => ?_⟩ (fun i j p q h1 h2 e => ?_)
  · match i, j, h1, h2 with
    | 0, 0, _, _ => rfl
  · match k, h with
    | 0, h => exact Or.inr (by cases h; rfl)
  · match j, h2 with
    | 0, h2 =>
      cases h2
      have h5 := (hV.1 σ).2 i p h1
      have e5 : p.1 = ao := e
      rw [e5] at h5
      exact hao h5
theorem zl_cut {P : ZP} {ao : Nat} {cJ : ClassId} {σ : ZS} {H : Heap} (h : va_P P.2.1 zc_cl (zl_ws P ao cJ σ) H) : va_P P.2.1 zc_cl (zc_ws P σ) H := fun k q hk => h k q (by
  rw [zl_ws, List.getElem?_append_left (List.getElem?_eq_some_iff.mp hk).1]; exact hk)
theorem zl_join {P : ZP} {ao : Nat} {cJ : ClassId} {σ τ : ZS} {H H1 : Heap} (h : va_P P.2.1 zc_cl (zl_ws P ao cJ σ) H) (h1 : va_P P.2.1 zc_cl (zc_ws P τ) H1) (ho : H1[ao]? = H[ao]?) : va_P P.2.1 zc_cl (zl_ws P ao cJ (zs_mix τ σ)) H1 := by
  refine va_P.app (w1 := zc_ws P (zs_mix τ σ)) h1 ?_
  intro k q hk
  match k, hk with
  | 0, hk =>
    have h2 := h 14 (ao, .inl (cJ, 1, .inr (.inl (fun _ => (σ 5 0).toInt64)))) rfl
    cases hk
    exact h2.kept ho
theorem zl_put {P : ZP} {ao : Nat} {cJ : ClassId} {σ : ZS} {x : Int64} {v : Int32} {H : Heap} (e : v.toInt64 = x) (h : va_P P.2.1 zc_cl ((zl_ws P ao cJ σ).set 14 (ao, .inl (cJ, 1, .inr (.inl (vp_updL (fun _ => (σ 5 0).toInt64) (0 : Int32).toNatClampNeg x))))) H) : va_P P.2.1 zc_cl (zl_ws P ao cJ (zs_up σ 5 0 v)) H := by
  refine va_P.app (w1 := zc_ws P (zs_up σ 5 0 v)) (fun k q hk => ?_) (fun k q hk => ?_)
  · have hlt : k < 14 := (List.getElem?_eq_some_iff.mp hk).1
    refine h k q ?_
    rw [List.getElem?_set_ne (by omega)]
    rw [zl_ws, List.getElem?_append_left hlt]
    exact hk
  · match k, hk with
    | 0, hk =>
      have h2 := h 14 (ao, .inl (cJ, 1, .inr (.inl (vp_updL (fun _ => (σ 5 0).toInt64) (0 : Int32).toNatClampNeg x)))) rfl
      cases hk
      have h3 : H[ao]? = some (arrV cJ 1 (fun j => .long (vp_updL (fun _ => (σ 5 0).toInt64) (0 : Int32).toNatClampNeg x j))) := h2
      show H[ao]? = some (arrV cJ 1 (fun _ => .long (zs_up σ 5 0 v 5 0).toInt64))
      rw [h3]
      have e2 : (zs_up σ 5 0 v 5 0) = v := rfl
      rw [e2, e]
      congr 1
-- wrapper poke: room 7 112
def y_L_poke : MethodName := ⟨"FrameMachineLaw", "poke", "(LFrameMachine;II[J)I"⟩
theorem kd_L_poke_0 : decode method_3_code 0 = .ok (.aload_n 3, 1) := by decide +kernel
theorem kd_L_poke_1 : decode method_3_code 1 = .ok (.iconst 0, 1) := by decide +kernel
theorem kd_L_poke_2 : decode method_3_code 2 = .ok (.aload_n 0, 1) := by decide +kernel
theorem kd_L_poke_3 : decode method_3_code 3 = .ok (.iload_n 1, 1) := by decide +kernel
theorem kd_L_poke_4 : decode method_3_code 4 = .ok (.iload_n 2, 1) := by decide +kernel
theorem kd_L_poke_5 : decode method_3_code 5 = .ok (.invokevirtual 7, 3) := by decide +kernel
theorem kd_L_poke_8 : decode method_3_code 8 = .ok (.ifCond .eq 7, 3) := by decide +kernel
theorem kd_L_poke_11 : decode method_3_code 11 = .ok (.lconst 1, 1) := by decide +kernel
theorem kd_L_poke_12 : decode method_3_code 12 = .ok (.goto 4, 3) := by decide +kernel
theorem kd_L_poke_15 : decode method_3_code 15 = .ok (.lconst 0, 1) := by decide +kernel
theorem kd_L_poke_16 : decode method_3_code 16 = .ok (.lastore, 1) := by decide +kernel
theorem kd_L_poke_17 : decode method_3_code 17 = .ok (.goto 7, 3) := by decide +kernel
theorem kd_L_poke_20 : decode method_3_code 20 = .ok (.astore 4, 2) := by decide +kernel
theorem kd_L_poke_22 : decode method_3_code 22 = .ok (.iconst 1, 1) := by decide +kernel
theorem kd_L_poke_23 : decode method_3_code 23 = .ok (.ireturn, 1) := by decide +kernel
theorem kd_L_poke_24 : decode method_3_code 24 = .ok (.iconst 0, 1) := by decide +kernel
theorem kd_L_poke_25 : decode method_3_code 25 = .ok (.ireturn, 1) := by decide +kernel
theorem kw_357 : (Jvm.Cond.methodLink "FrameMachineLaw" (7 : Nat) ({ cls := "FrameMachine", name := "poke", desc := "(II)Z" } : Jvm.MethodName)) ∈ lw_tbl := zk_2 (List.mem_of_getElem? (i := 117) rfl)
theorem kw_358 : (Jvm.Cond.instanceMethod ({ cls := "FrameMachine", name := "poke", desc := "(II)Z" } : Jvm.MethodName)) ∈ lw_tbl := zk_2 (List.mem_of_getElem? (i := 118) rfl)
theorem kw_359 : (Jvm.Cond.selects "FrameMachine" ({ cls := "FrameMachine", name := "poke", desc := "(II)Z" } : Jvm.MethodName) ({ cls := "FrameMachine", name := "poke", desc := "(II)Z" } : Jvm.MethodName)) ∈ lw_tbl := zk_2 (List.mem_of_getElem? (i := 119) rfl)
theorem kw_360 : (Jvm.Cond.code ({ cls := "FrameMachine", name := "poke", desc := "(II)Z" } : Jvm.MethodName) prog_1_method_2_code (3 : Nat) (Option.some Jvm.ClassFile.FieldType.boolean)) ∈ lw_tbl := zk_2 (List.mem_of_getElem? (i := 120) rfl)
theorem kw_356 : (Jvm.Cond.classLink "FrameMachineLaw" (13 : Nat) "java/lang/IllegalArgumentException") ∈ lw_tbl := zk_2 (List.mem_of_getElem? (i := 116) rfl)
theorem kc_L_7 : zCV "FrameMachineLaw" 7 y_F_poke b_F_poke 3 (some .boolean) 2 := ⟨⟨kw_357, kw_358, kw_359, kw_1, kw_360⟩, by decide +kernel, by decide +kernel, by decide +kernel⟩
theorem cw_L_poke {l : Launch} (hno : l.stackTraces = false) {P : ZP} {ao : Nat} {cJ : ClassId} (hV : ZVok (zcV P)) (haoc : ¬ zc_A P ao) (s0 : ZS) (sz : Nat) (haos : ao < sz) (x1 : Int32) (x2 : Int32) {z : Option Int32 × ZS} (h : f_F_poke s0 x1 x2 = some z) : zMw l y_L_poke method_3_code 5 [(0, 17, 20, 13)] 7 112 (zlV P ao cJ) s0 sz [.ref (P.1 0), .int x1, .int x2, .ref ao] (zr_b s0 z) := by
  refine va_MetW (cc := method_3_code) (maxL := 5) (ret := some .int) (hh := [(0, 17, 20, 13)]) (by decide +kernel) rfl ?_
  intro p e s m args below meth c s₁ B hml hv
  obtain ⟨rfl, hsz, hP, hK, hT, hN, hSS⟩ := hv
  subst hsz
  have hx := B.exec
  have hb := B.bytes
  have hr := B.returns
  have hlocks := B.notSynchronized
  have hts := atoms_spec (ws := Cond.codeWith y_L_poke method_3_code 5 (some .int) [(0, 17, 20, 13)] :: zw_w) B.pre
  have ht : ∀ w ∈ zw_w, w.before _ s = true := fun w hw => hts w (List.mem_cons_of_mem _ hw)
  have hown : s.vm.findClass "FrameMachineLaw" = some m.cls := findClass_of_methodNamed B.named
  have hex : c.exceptionTable.toList.map (fun h => (h.startPc, h.endPc, h.handlerPc, h.catchType)) = [(0, 17, 20, 13)] := by
    obtain ⟨m9, meth9, c9, hn9, h1, h2, -, -, h5, -⟩ := Cond.codeWith_spec (hts _ List.mem_cons_self)
    cases B.named.symm.trans hn9
    cases B.method.symm.trans h1
    cases (Stand.of_body B).code.symm.trans h2
    exact h5
  have hKc : va_K P.2.1 zc_cl [(P.2.2.1, .int), (P.2.2.2, .byte)] s := hK.sub [0, 1] rfl
  have hTc : zc_T P (zc_A P) s s.heap := hV.2.2 (fun q => zc_A P q ∨ q = ao) (zc_A P) s s.heap (fun q h => Or.inl h) hT
  have hAc : ∀ q, zA (zcV P) s.heap.size q → zA (zlV P ao cJ) s.heap.size q := fun q h => h.elim (fun h => Or.inl (Or.inl h)) Or.inr
  have hDl : ∀ σ, va_D (zA (zlV P ao cJ) s.heap.size) (zl_ws P ao cJ σ) := fun σ => (zl_D hV haoc σ).weaken (fun _ _ _ h => Or.inl h)
  have haoc : ¬ zA (zcV P) s.heap.size ao := fun h => h.elim haoc (fun h => Nat.not_lt.mpr h haos)
  have hl := lv_entry [.ref (P.1 0), .int x1, .int x2, .ref ao] (n := 5) (Nat.le_of_ble_eq_true rfl)
  rw [lg_entry_eq]
  generalize (lg_sl [.ref (P.1 0), .int x1, .int x2, .ref ao] ++ List.replicate (5 - (lg_sl [.ref (P.1 0), .int x1, .int x2, .ref ao]).length) Slot.unset).toArray = ls at hl ⊢
  have hl : lv_has ls 5 [(0, .ref (P.1 0)), (1, .int x1), (2, .int x2), (3, .ref ao)] := hl
  refine lv_aload_n hx hb kd_L_poke_0 rfl (lv_at hl 3 rfl) ?_
  refine lv_iconst (v := 0) hx hb kd_L_poke_1 ki_0 ?_
  refine lv_aload_n hx hb kd_L_poke_2 rfl (lv_at hl 0 rfl) ?_
  refine lv_iload_n hx hb kd_L_poke_3 rfl (lv_at hl 1 rfl) ?_
  refine lv_iload_n hx hb kd_L_poke_4 rfl (lv_at hl 2 rfl) ?_
  refine zt_callV (own := "FrameMachineLaw") (A0 := zA (zlV P ao cJ) s.heap.size) (H0 := s.heap) (As := [.int x1, .int x2]) (rest := [.int 0, .ref ao]) (q0 := 0) (ci := 0) hx hb hml hown ht hN kc_L_7 (Nat.le_refl _) (Nat.le_refl _) (Nat.le_refl _) (Nat.le_refl _) (ct_F_poke hno hV s0 s.heap.size x1 x2 h) hV hKc (zl_cut hP) rfl hTc (fun U hU hW => zt_S.moved hW (fun a _ => by rw [hU]) hSS) rfl rfl rfl (Nat.le_of_ble_eq_true rfl) hl.1 kd_L_poke_5 va_S.rf hAc hex (by decide) (by decide) kw_356 (fun v hv H1 locs1 hP1 hz1 hk1 hS1 => ?_) (fun hv ad H1 locs1 hP1 hz1 hk1 hS1 => ?_)
  · have hPl := zl_join (τ := z.2) hP hP1 (hk1 ao haos haoc)
    refine lv_if_eq hx hb kd_L_poke_8 rfl (fun h0 => ?_) (fun h0 => ?_)
    · have hzr : zr_b s0 z = (0, zs_up (zs_mix z.2 s0) 5 0 0) := by unfold zr_b; rw [hv]; simp [h0]
      refine lv_lconst (v := 0) hx hb kd_L_poke_15 rfl ?_
      refine va_last (A := zA (zlV P ao cJ) s.heap.size) (H0 := s.heap) (x := 0) hx hb hK hPl (hDl _) hS1 14 2 rfl rfl (i := 0) zi_in kd_L_poke_16 (fun H2 locs2 hP2 hD2 hS2 => ?_)
      refine lv_goto hx hb kd_L_poke_17 rfl ?_
      refine lv_iconst (v := 0) hx hb kd_L_poke_24 ki_0 ?_
      have hP3 : va_P P.2.1 zc_cl (zl_ws P ao cJ (zs_up (zs_mix z.2 s0) 5 0 (0))) H2 := zl_put rfl hP2
      exact W.iret (v := 0) hx hb hr (fun t ht hW => ⟨⟨0, zs_up (zs_mix z.2 s0) 5 0 (0), rfl, by rw [hzr]; exact ⟨rfl, rfl⟩, by show va_P _ _ _ t.heap; rw [ht]; exact hP3⟩, hS2.F ht⟩) hS2.2.2 kd_L_poke_25 (hlocks := hlocks)
    · have hzr : zr_b s0 z = (0, zs_up (zs_mix z.2 s0) 5 0 1) := by unfold zr_b; rw [hv]; simp [h0]
      refine lv_lconst (v := 1) hx hb kd_L_poke_11 rfl ?_
      refine lv_goto hx hb kd_L_poke_12 rfl ?_
      refine va_last (A := zA (zlV P ao cJ) s.heap.size) (H0 := s.heap) (x := 1) hx hb hK hPl (hDl _) hS1 14 2 rfl rfl (i := 0) zi_in kd_L_poke_16 (fun H2 locs2 hP2 hD2 hS2 => ?_)
      refine lv_goto hx hb kd_L_poke_17 rfl ?_
      refine lv_iconst (v := 0) hx hb kd_L_poke_24 ki_0 ?_
      have hP3 : va_P P.2.1 zc_cl (zl_ws P ao cJ (zs_up (zs_mix z.2 s0) 5 0 (1))) H2 := zl_put rfl hP2
      exact W.iret (v := 0) hx hb hr (fun t ht hW => ⟨⟨0, zs_up (zs_mix z.2 s0) 5 0 (1), rfl, by rw [hzr]; exact ⟨rfl, rfl⟩, by show va_P _ _ _ t.heap; rw [ht]; exact hP3⟩, hS2.F ht⟩) hS2.2.2 kd_L_poke_25 (hlocks := hlocks)
  · have hPl := zl_join (τ := z.2) hP hP1 (hk1 ao haos haoc)
    have hzr : zr_b s0 z = (1, zs_mix z.2 s0) := by unfold zr_b; rw [hv]
    refine lv_astore hx hb kd_L_poke_20 hl (Nat.le_of_ble_eq_true rfl) (lv' := [(4, .ref ad), (0, .ref (P.1 0)), (1, .int x1), (2, .int x2), (3, .ref ao)]) rfl (fun ls2 hl2 => ?_)
    refine lv_iconst (v := 1) hx hb kd_L_poke_22 ki_1 ?_
    exact W.iret (v := 1) hx hb hr (fun t ht hW => ⟨⟨1, zs_mix z.2 s0, rfl, by rw [hzr]; exact ⟨rfl, rfl⟩, by show va_P _ _ _ t.heap; rw [ht]; exact hPl⟩, hS1.F ht⟩) hS1.2.2 kd_L_poke_23 (hlocks := hlocks)
-- wrapper peek: room 7 111
def y_L_peek : MethodName := ⟨"FrameMachineLaw", "peek", "(LFrameMachine;I[J)I"⟩
theorem kd_L_peek_0 : decode method_4_code 0 = .ok (.aload_n 2, 1) := by decide +kernel
theorem kd_L_peek_1 : decode method_4_code 1 = .ok (.iconst 0, 1) := by decide +kernel
theorem kd_L_peek_2 : decode method_4_code 2 = .ok (.aload_n 0, 1) := by decide +kernel
theorem kd_L_peek_3 : decode method_4_code 3 = .ok (.iload_n 1, 1) := by decide +kernel
theorem kd_L_peek_4 : decode method_4_code 4 = .ok (.invokevirtual 15, 3) := by decide +kernel
theorem kd_L_peek_7 : decode method_4_code 7 = .ok (.i2l, 1) := by decide +kernel
theorem kd_L_peek_8 : decode method_4_code 8 = .ok (.lastore, 1) := by decide +kernel
theorem kd_L_peek_9 : decode method_4_code 9 = .ok (.goto 6, 3) := by decide +kernel
theorem kd_L_peek_12 : decode method_4_code 12 = .ok (.astore_n 3, 1) := by decide +kernel
theorem kd_L_peek_13 : decode method_4_code 13 = .ok (.iconst 1, 1) := by decide +kernel
theorem kd_L_peek_14 : decode method_4_code 14 = .ok (.ireturn, 1) := by decide +kernel
theorem kd_L_peek_15 : decode method_4_code 15 = .ok (.iconst 0, 1) := by decide +kernel
theorem kd_L_peek_16 : decode method_4_code 16 = .ok (.ireturn, 1) := by decide +kernel
theorem kw_441 : (Jvm.Cond.methodLink "FrameMachineLaw" (15 : Nat) ({ cls := "FrameMachine", name := "peek", desc := "(I)I" } : Jvm.MethodName)) ∈ lw_tbl := zk_2 (List.mem_of_getElem? (i := 201) rfl)
theorem kw_442 : (Jvm.Cond.instanceMethod ({ cls := "FrameMachine", name := "peek", desc := "(I)I" } : Jvm.MethodName)) ∈ lw_tbl := zk_2 (List.mem_of_getElem? (i := 202) rfl)
theorem kw_443 : (Jvm.Cond.selects "FrameMachine" ({ cls := "FrameMachine", name := "peek", desc := "(I)I" } : Jvm.MethodName) ({ cls := "FrameMachine", name := "peek", desc := "(I)I" } : Jvm.MethodName)) ∈ lw_tbl := zk_2 (List.mem_of_getElem? (i := 203) rfl)
theorem kw_444 : (Jvm.Cond.code ({ cls := "FrameMachine", name := "peek", desc := "(I)I" } : Jvm.MethodName) prog_1_method_3_code (2 : Nat) (Option.some Jvm.ClassFile.FieldType.int)) ∈ lw_tbl := zk_2 (List.mem_of_getElem? (i := 204) rfl)
theorem kc_L_15 : zCV "FrameMachineLaw" 15 y_F_peek b_F_peek 2 (some .int) 1 := ⟨⟨kw_441, kw_442, kw_443, kw_1, kw_444⟩, by decide +kernel, by decide +kernel, by decide +kernel⟩
theorem cw_L_peek {l : Launch} (hno : l.stackTraces = false) {P : ZP} {ao : Nat} {cJ : ClassId} (hV : ZVok (zcV P)) (haoc : ¬ zc_A P ao) (s0 : ZS) (sz : Nat) (haos : ao < sz) (x1 : Int32) {z : Option Int32 × ZS} (h : f_F_peek s0 x1 = some z) : zMw l y_L_peek method_4_code 4 [(0, 9, 12, 13)] 7 111 (zlV P ao cJ) s0 sz [.ref (P.1 0), .int x1, .ref ao] (zr_i s0 z) := by
  refine va_MetW (cc := method_4_code) (maxL := 4) (ret := some .int) (hh := [(0, 9, 12, 13)]) (by decide +kernel) rfl ?_
  intro p e s m args below meth c s₁ B hml hv
  obtain ⟨rfl, hsz, hP, hK, hT, hN, hSS⟩ := hv
  subst hsz
  have hx := B.exec
  have hb := B.bytes
  have hr := B.returns
  have hlocks := B.notSynchronized
  have hts := atoms_spec (ws := Cond.codeWith y_L_peek method_4_code 4 (some .int) [(0, 9, 12, 13)] :: zw_w) B.pre
  have ht : ∀ w ∈ zw_w, w.before _ s = true := fun w hw => hts w (List.mem_cons_of_mem _ hw)
  have hown : s.vm.findClass "FrameMachineLaw" = some m.cls := findClass_of_methodNamed B.named
  have hex : c.exceptionTable.toList.map (fun h => (h.startPc, h.endPc, h.handlerPc, h.catchType)) = [(0, 9, 12, 13)] := by
    obtain ⟨m9, meth9, c9, hn9, h1, h2, -, -, h5, -⟩ := Cond.codeWith_spec (hts _ List.mem_cons_self)
    cases B.named.symm.trans hn9
    cases B.method.symm.trans h1
    cases (Stand.of_body B).code.symm.trans h2
    exact h5
  have hKc : va_K P.2.1 zc_cl [(P.2.2.1, .int), (P.2.2.2, .byte)] s := hK.sub [0, 1] rfl
  have hTc : zc_T P (zc_A P) s s.heap := hV.2.2 (fun q => zc_A P q ∨ q = ao) (zc_A P) s s.heap (fun q h => Or.inl h) hT
  have hAc : ∀ q, zA (zcV P) s.heap.size q → zA (zlV P ao cJ) s.heap.size q := fun q h => h.elim (fun h => Or.inl (Or.inl h)) Or.inr
  have hDl : ∀ σ, va_D (zA (zlV P ao cJ) s.heap.size) (zl_ws P ao cJ σ) := fun σ => (zl_D hV haoc σ).weaken (fun _ _ _ h => Or.inl h)
  have haoc : ¬ zA (zcV P) s.heap.size ao := fun h => h.elim haoc (fun h => Nat.not_lt.mpr h haos)
  have hl := lv_entry [.ref (P.1 0), .int x1, .ref ao] (n := 4) (Nat.le_of_ble_eq_true rfl)
  rw [lg_entry_eq]
  generalize (lg_sl [.ref (P.1 0), .int x1, .ref ao] ++ List.replicate (4 - (lg_sl [.ref (P.1 0), .int x1, .ref ao]).length) Slot.unset).toArray = ls at hl ⊢
  have hl : lv_has ls 4 [(0, .ref (P.1 0)), (1, .int x1), (2, .ref ao)] := hl
  refine lv_aload_n hx hb kd_L_peek_0 rfl (lv_at hl 2 rfl) ?_
  refine lv_iconst (v := 0) hx hb kd_L_peek_1 ki_0 ?_
  refine lv_aload_n hx hb kd_L_peek_2 rfl (lv_at hl 0 rfl) ?_
  refine lv_iload_n hx hb kd_L_peek_3 rfl (lv_at hl 1 rfl) ?_
  refine zt_callV (own := "FrameMachineLaw") (A0 := zA (zlV P ao cJ) s.heap.size) (H0 := s.heap) (As := [.int x1]) (rest := [.int 0, .ref ao]) (q0 := 0) (ci := 0) hx hb hml hown ht hN kc_L_15 (Nat.le_refl _) (Nat.le_refl _) (Nat.le_refl _) (Nat.le_refl _) (ct_F_peek hno hV s0 s.heap.size x1 h) hV hKc (zl_cut hP) rfl hTc (fun U hU hW => zt_S.moved hW (fun a _ => by rw [hU]) hSS) rfl rfl rfl (Nat.le_of_ble_eq_true rfl) hl.1 kd_L_peek_4 va_S.rf hAc hex (by decide) (by decide) kw_356 (fun v hv H1 locs1 hP1 hz1 hk1 hS1 => ?_) (fun hv ad H1 locs1 hP1 hz1 hk1 hS1 => ?_)
  · have hPl := zl_join (τ := z.2) hP hP1 (hk1 ao haos haoc)
    have hzr : zr_i s0 z = (0, zs_up (zs_mix z.2 s0) 5 0 v) := by unfold zr_i; rw [hv]
    refine lv_i2l hx hb kd_L_peek_7 rfl ?_
    refine va_last (A := zA (zlV P ao cJ) s.heap.size) (H0 := s.heap) (x := v.toInt64) hx hb hK hPl (hDl _) hS1 14 2 rfl rfl (i := 0) zi_in kd_L_peek_8 (fun H2 locs2 hP2 hD2 hS2 => ?_)
    refine lv_goto hx hb kd_L_peek_9 rfl ?_
    refine lv_iconst (v := 0) hx hb kd_L_peek_15 ki_0 ?_
    have hP3 : va_P P.2.1 zc_cl (zl_ws P ao cJ (zs_up (zs_mix z.2 s0) 5 0 (v))) H2 := zl_put rfl hP2
    exact W.iret (v := 0) hx hb hr (fun t ht hW => ⟨⟨0, zs_up (zs_mix z.2 s0) 5 0 (v), rfl, by rw [hzr]; exact ⟨rfl, rfl⟩, by show va_P _ _ _ t.heap; rw [ht]; exact hP3⟩, hS2.F ht⟩) hS2.2.2 kd_L_peek_16 (hlocks := hlocks)
  · have hPl := zl_join (τ := z.2) hP hP1 (hk1 ao haos haoc)
    have hzr : zr_i s0 z = (1, zs_mix z.2 s0) := by unfold zr_i; rw [hv]
    refine lv_astore_n hx hb kd_L_peek_12 rfl hl (Nat.le_of_ble_eq_true rfl) (lv' := [(3, .ref ad), (0, .ref (P.1 0)), (1, .int x1), (2, .ref ao)]) rfl (fun ls2 hl2 => ?_)
    refine lv_iconst (v := 1) hx hb kd_L_peek_13 ki_1 ?_
    exact W.iret (v := 1) hx hb hr (fun t ht hW => ⟨⟨1, zs_mix z.2 s0, rfl, by rw [hzr]; exact ⟨rfl, rfl⟩, by show va_P _ _ _ t.heap; rw [ht]; exact hPl⟩, hS1.F ht⟩) hS1.2.2 kd_L_peek_14 (hlocks := hlocks)
-- wrapper set: room 7 112
def y_L_set : MethodName := ⟨"FrameMachineLaw", "set", "(LFrameMachine;II[J)I"⟩
theorem kd_L_set_0 : decode method_5_code 0 = .ok (.aload_n 3, 1) := by decide +kernel
theorem kd_L_set_1 : decode method_5_code 1 = .ok (.iconst 0, 1) := by decide +kernel
theorem kd_L_set_2 : decode method_5_code 2 = .ok (.aload_n 0, 1) := by decide +kernel
theorem kd_L_set_3 : decode method_5_code 3 = .ok (.iload_n 1, 1) := by decide +kernel
theorem kd_L_set_4 : decode method_5_code 4 = .ok (.iload_n 2, 1) := by decide +kernel
theorem kd_L_set_5 : decode method_5_code 5 = .ok (.invokevirtual 19, 3) := by decide +kernel
theorem kd_L_set_8 : decode method_5_code 8 = .ok (.ifCond .eq 7, 3) := by decide +kernel
theorem kd_L_set_11 : decode method_5_code 11 = .ok (.lconst 1, 1) := by decide +kernel
theorem kd_L_set_12 : decode method_5_code 12 = .ok (.goto 4, 3) := by decide +kernel
theorem kd_L_set_15 : decode method_5_code 15 = .ok (.lconst 0, 1) := by decide +kernel
theorem kd_L_set_16 : decode method_5_code 16 = .ok (.lastore, 1) := by decide +kernel
theorem kd_L_set_17 : decode method_5_code 17 = .ok (.goto 7, 3) := by decide +kernel
theorem kd_L_set_20 : decode method_5_code 20 = .ok (.astore 4, 2) := by decide +kernel
theorem kd_L_set_22 : decode method_5_code 22 = .ok (.iconst 1, 1) := by decide +kernel
theorem kd_L_set_23 : decode method_5_code 23 = .ok (.ireturn, 1) := by decide +kernel
theorem kd_L_set_24 : decode method_5_code 24 = .ok (.iconst 0, 1) := by decide +kernel
theorem kd_L_set_25 : decode method_5_code 25 = .ok (.ireturn, 1) := by decide +kernel
theorem kw_449 : (Jvm.Cond.methodLink "FrameMachineLaw" (19 : Nat) ({ cls := "FrameMachine", name := "set", desc := "(II)Z" } : Jvm.MethodName)) ∈ lw_tbl := zk_2 (List.mem_of_getElem? (i := 209) rfl)
theorem kw_450 : (Jvm.Cond.instanceMethod ({ cls := "FrameMachine", name := "set", desc := "(II)Z" } : Jvm.MethodName)) ∈ lw_tbl := zk_2 (List.mem_of_getElem? (i := 210) rfl)
theorem kw_451 : (Jvm.Cond.selects "FrameMachine" ({ cls := "FrameMachine", name := "set", desc := "(II)Z" } : Jvm.MethodName) ({ cls := "FrameMachine", name := "set", desc := "(II)Z" } : Jvm.MethodName)) ∈ lw_tbl := zk_2 (List.mem_of_getElem? (i := 211) rfl)
theorem kw_452 : (Jvm.Cond.code ({ cls := "FrameMachine", name := "set", desc := "(II)Z" } : Jvm.MethodName) prog_1_method_4_code (3 : Nat) (Option.some Jvm.ClassFile.FieldType.boolean)) ∈ lw_tbl := zk_2 (List.mem_of_getElem? (i := 212) rfl)
theorem kc_L_19 : zCV "FrameMachineLaw" 19 y_F_set b_F_set 3 (some .boolean) 2 := ⟨⟨kw_449, kw_450, kw_451, kw_1, kw_452⟩, by decide +kernel, by decide +kernel, by decide +kernel⟩
theorem cw_L_set {l : Launch} (hno : l.stackTraces = false) {P : ZP} {ao : Nat} {cJ : ClassId} (hV : ZVok (zcV P)) (haoc : ¬ zc_A P ao) (s0 : ZS) (sz : Nat) (haos : ao < sz) (x1 : Int32) (x2 : Int32) {z : Option Int32 × ZS} (h : f_F_set s0 x1 x2 = some z) : zMw l y_L_set method_5_code 5 [(0, 17, 20, 13)] 7 112 (zlV P ao cJ) s0 sz [.ref (P.1 0), .int x1, .int x2, .ref ao] (zr_b s0 z) := by
  refine va_MetW (cc := method_5_code) (maxL := 5) (ret := some .int) (hh := [(0, 17, 20, 13)]) (by decide +kernel) rfl ?_
  intro p e s m args below meth c s₁ B hml hv
  obtain ⟨rfl, hsz, hP, hK, hT, hN, hSS⟩ := hv
  subst hsz
  have hx := B.exec
  have hb := B.bytes
  have hr := B.returns
  have hlocks := B.notSynchronized
  have hts := atoms_spec (ws := Cond.codeWith y_L_set method_5_code 5 (some .int) [(0, 17, 20, 13)] :: zw_w) B.pre
  have ht : ∀ w ∈ zw_w, w.before _ s = true := fun w hw => hts w (List.mem_cons_of_mem _ hw)
  have hown : s.vm.findClass "FrameMachineLaw" = some m.cls := findClass_of_methodNamed B.named
  have hex : c.exceptionTable.toList.map (fun h => (h.startPc, h.endPc, h.handlerPc, h.catchType)) = [(0, 17, 20, 13)] := by
    obtain ⟨m9, meth9, c9, hn9, h1, h2, -, -, h5, -⟩ := Cond.codeWith_spec (hts _ List.mem_cons_self)
    cases B.named.symm.trans hn9
    cases B.method.symm.trans h1
    cases (Stand.of_body B).code.symm.trans h2
    exact h5
  have hKc : va_K P.2.1 zc_cl [(P.2.2.1, .int), (P.2.2.2, .byte)] s := hK.sub [0, 1] rfl
  have hTc : zc_T P (zc_A P) s s.heap := hV.2.2 (fun q => zc_A P q ∨ q = ao) (zc_A P) s s.heap (fun q h => Or.inl h) hT
  have hAc : ∀ q, zA (zcV P) s.heap.size q → zA (zlV P ao cJ) s.heap.size q := fun q h => h.elim (fun h => Or.inl (Or.inl h)) Or.inr
  have hDl : ∀ σ, va_D (zA (zlV P ao cJ) s.heap.size) (zl_ws P ao cJ σ) := fun σ => (zl_D hV haoc σ).weaken (fun _ _ _ h => Or.inl h)
  have haoc : ¬ zA (zcV P) s.heap.size ao := fun h => h.elim haoc (fun h => Nat.not_lt.mpr h haos)
  have hl := lv_entry [.ref (P.1 0), .int x1, .int x2, .ref ao] (n := 5) (Nat.le_of_ble_eq_true rfl)
  rw [lg_entry_eq]
  generalize (lg_sl [.ref (P.1 0), .int x1, .int x2, .ref ao] ++ List.replicate (5 - (lg_sl [.ref (P.1 0), .int x1, .int x2, .ref ao]).length) Slot.unset).toArray = ls at hl ⊢
  have hl : lv_has ls 5 [(0, .ref (P.1 0)), (1, .int x1), (2, .int x2), (3, .ref ao)] := hl
  refine lv_aload_n hx hb kd_L_set_0 rfl (lv_at hl 3 rfl) ?_
  refine lv_iconst (v := 0) hx hb kd_L_set_1 ki_0 ?_
  refine lv_aload_n hx hb kd_L_set_2 rfl (lv_at hl 0 rfl) ?_
  refine lv_iload_n hx hb kd_L_set_3 rfl (lv_at hl 1 rfl) ?_
  refine lv_iload_n hx hb kd_L_set_4 rfl (lv_at hl 2 rfl) ?_
  refine zt_callV (own := "FrameMachineLaw") (A0 := zA (zlV P ao cJ) s.heap.size) (H0 := s.heap) (As := [.int x1, .int x2]) (rest := [.int 0, .ref ao]) (q0 := 0) (ci := 0) hx hb hml hown ht hN kc_L_19 (Nat.le_refl _) (Nat.le_refl _) (Nat.le_refl _) (Nat.le_refl _) (ct_F_set hno hV s0 s.heap.size x1 x2 h) hV hKc (zl_cut hP) rfl hTc (fun U hU hW => zt_S.moved hW (fun a _ => by rw [hU]) hSS) rfl rfl rfl (Nat.le_of_ble_eq_true rfl) hl.1 kd_L_set_5 va_S.rf hAc hex (by decide) (by decide) kw_356 (fun v hv H1 locs1 hP1 hz1 hk1 hS1 => ?_) (fun hv ad H1 locs1 hP1 hz1 hk1 hS1 => ?_)
  · have hPl := zl_join (τ := z.2) hP hP1 (hk1 ao haos haoc)
    refine lv_if_eq hx hb kd_L_set_8 rfl (fun h0 => ?_) (fun h0 => ?_)
    · have hzr : zr_b s0 z = (0, zs_up (zs_mix z.2 s0) 5 0 0) := by unfold zr_b; rw [hv]; simp [h0]
      refine lv_lconst (v := 0) hx hb kd_L_set_15 rfl ?_
      refine va_last (A := zA (zlV P ao cJ) s.heap.size) (H0 := s.heap) (x := 0) hx hb hK hPl (hDl _) hS1 14 2 rfl rfl (i := 0) zi_in kd_L_set_16 (fun H2 locs2 hP2 hD2 hS2 => ?_)
      refine lv_goto hx hb kd_L_set_17 rfl ?_
      refine lv_iconst (v := 0) hx hb kd_L_set_24 ki_0 ?_
      have hP3 : va_P P.2.1 zc_cl (zl_ws P ao cJ (zs_up (zs_mix z.2 s0) 5 0 (0))) H2 := zl_put rfl hP2
      exact W.iret (v := 0) hx hb hr (fun t ht hW => ⟨⟨0, zs_up (zs_mix z.2 s0) 5 0 (0), rfl, by rw [hzr]; exact ⟨rfl, rfl⟩, by show va_P _ _ _ t.heap; rw [ht]; exact hP3⟩, hS2.F ht⟩) hS2.2.2 kd_L_set_25 (hlocks := hlocks)
    · have hzr : zr_b s0 z = (0, zs_up (zs_mix z.2 s0) 5 0 1) := by unfold zr_b; rw [hv]; simp [h0]
      refine lv_lconst (v := 1) hx hb kd_L_set_11 rfl ?_
      refine lv_goto hx hb kd_L_set_12 rfl ?_
      refine va_last (A := zA (zlV P ao cJ) s.heap.size) (H0 := s.heap) (x := 1) hx hb hK hPl (hDl _) hS1 14 2 rfl rfl (i := 0) zi_in kd_L_set_16 (fun H2 locs2 hP2 hD2 hS2 => ?_)
      refine lv_goto hx hb kd_L_set_17 rfl ?_
      refine lv_iconst (v := 0) hx hb kd_L_set_24 ki_0 ?_
      have hP3 : va_P P.2.1 zc_cl (zl_ws P ao cJ (zs_up (zs_mix z.2 s0) 5 0 (1))) H2 := zl_put rfl hP2
      exact W.iret (v := 0) hx hb hr (fun t ht hW => ⟨⟨0, zs_up (zs_mix z.2 s0) 5 0 (1), rfl, by rw [hzr]; exact ⟨rfl, rfl⟩, by show va_P _ _ _ t.heap; rw [ht]; exact hP3⟩, hS2.F ht⟩) hS2.2.2 kd_L_set_25 (hlocks := hlocks)
  · have hPl := zl_join (τ := z.2) hP hP1 (hk1 ao haos haoc)
    have hzr : zr_b s0 z = (1, zs_mix z.2 s0) := by unfold zr_b; rw [hv]
    refine lv_astore hx hb kd_L_set_20 hl (Nat.le_of_ble_eq_true rfl) (lv' := [(4, .ref ad), (0, .ref (P.1 0)), (1, .int x1), (2, .int x2), (3, .ref ao)]) rfl (fun ls2 hl2 => ?_)
    refine lv_iconst (v := 1) hx hb kd_L_set_22 ki_1 ?_
    exact W.iret (v := 1) hx hb hr (fun t ht hW => ⟨⟨1, zs_mix z.2 s0, rfl, by rw [hzr]; exact ⟨rfl, rfl⟩, by show va_P _ _ _ t.heap; rw [ht]; exact hPl⟩, hS1.F ht⟩) hS1.2.2 kd_L_set_23 (hlocks := hlocks)
-- wrapper run: room 8 191
def y_L_run : MethodName := ⟨"FrameMachineLaw", "run", "(LFrameMachine;I[J)I"⟩
theorem kd_L_run_0 : decode method_6_code 0 = .ok (.aload_n 2, 1) := by decide +kernel
theorem kd_L_run_1 : decode method_6_code 1 = .ok (.iconst 0, 1) := by decide +kernel
theorem kd_L_run_2 : decode method_6_code 2 = .ok (.aload_n 0, 1) := by decide +kernel
theorem kd_L_run_3 : decode method_6_code 3 = .ok (.iload_n 1, 1) := by decide +kernel
theorem kd_L_run_4 : decode method_6_code 4 = .ok (.invokevirtual 22, 3) := by decide +kernel
theorem kd_L_run_7 : decode method_6_code 7 = .ok (.i2l, 1) := by decide +kernel
theorem kd_L_run_8 : decode method_6_code 8 = .ok (.lastore, 1) := by decide +kernel
theorem kd_L_run_9 : decode method_6_code 9 = .ok (.goto 6, 3) := by decide +kernel
theorem kd_L_run_12 : decode method_6_code 12 = .ok (.astore_n 3, 1) := by decide +kernel
theorem kd_L_run_13 : decode method_6_code 13 = .ok (.iconst 1, 1) := by decide +kernel
theorem kd_L_run_14 : decode method_6_code 14 = .ok (.ireturn, 1) := by decide +kernel
theorem kd_L_run_15 : decode method_6_code 15 = .ok (.iconst 0, 1) := by decide +kernel
theorem kd_L_run_16 : decode method_6_code 16 = .ok (.ireturn, 1) := by decide +kernel
theorem kw_461 : (Jvm.Cond.methodLink "FrameMachineLaw" (22 : Nat) ({ cls := "FrameMachine", name := "run", desc := "(I)I" } : Jvm.MethodName)) ∈ lw_tbl := zk_2 (List.mem_of_getElem? (i := 221) rfl)
theorem kw_462 : (Jvm.Cond.instanceMethod ({ cls := "FrameMachine", name := "run", desc := "(I)I" } : Jvm.MethodName)) ∈ lw_tbl := zk_2 (List.mem_of_getElem? (i := 222) rfl)
theorem kw_463 : (Jvm.Cond.selects "FrameMachine" ({ cls := "FrameMachine", name := "run", desc := "(I)I" } : Jvm.MethodName) ({ cls := "FrameMachine", name := "run", desc := "(I)I" } : Jvm.MethodName)) ∈ lw_tbl := zk_2 (List.mem_of_getElem? (i := 223) rfl)
theorem kw_464 : (Jvm.Cond.code ({ cls := "FrameMachine", name := "run", desc := "(I)I" } : Jvm.MethodName) prog_1_method_6_code (4 : Nat) (Option.some Jvm.ClassFile.FieldType.int)) ∈ lw_tbl := zk_2 (List.mem_of_getElem? (i := 224) rfl)
theorem kc_L_22 : zCV "FrameMachineLaw" 22 y_F_run b_F_run 4 (some .int) 1 := ⟨⟨kw_461, kw_462, kw_463, kw_1, kw_464⟩, by decide +kernel, by decide +kernel, by decide +kernel⟩
theorem cw_L_run {l : Launch} (hno : l.stackTraces = false) {P : ZP} {ao : Nat} {cJ : ClassId} (hV : ZVok (zcV P)) (haoc : ¬ zc_A P ao) (s0 : ZS) (sz : Nat) (haos : ao < sz) (x1 : Int32) {z : Option Int32 × ZS} (h : f_F_run s0 x1 = some z) : zMw l y_L_run method_6_code 4 [(0, 9, 12, 13)] 8 191 (zlV P ao cJ) s0 sz [.ref (P.1 0), .int x1, .ref ao] (zr_i s0 z) := by
  refine va_MetW (cc := method_6_code) (maxL := 4) (ret := some .int) (hh := [(0, 9, 12, 13)]) (by decide +kernel) rfl ?_
  intro p e s m args below meth c s₁ B hml hv
  obtain ⟨rfl, hsz, hP, hK, hT, hN, hSS⟩ := hv
  subst hsz
  have hx := B.exec
  have hb := B.bytes
  have hr := B.returns
  have hlocks := B.notSynchronized
  have hts := atoms_spec (ws := Cond.codeWith y_L_run method_6_code 4 (some .int) [(0, 9, 12, 13)] :: zw_w) B.pre
  have ht : ∀ w ∈ zw_w, w.before _ s = true := fun w hw => hts w (List.mem_cons_of_mem _ hw)
  have hown : s.vm.findClass "FrameMachineLaw" = some m.cls := findClass_of_methodNamed B.named
  have hex : c.exceptionTable.toList.map (fun h => (h.startPc, h.endPc, h.handlerPc, h.catchType)) = [(0, 9, 12, 13)] := by
    obtain ⟨m9, meth9, c9, hn9, h1, h2, -, -, h5, -⟩ := Cond.codeWith_spec (hts _ List.mem_cons_self)
    cases B.named.symm.trans hn9
    cases B.method.symm.trans h1
    cases (Stand.of_body B).code.symm.trans h2
    exact h5
  have hKc : va_K P.2.1 zc_cl [(P.2.2.1, .int), (P.2.2.2, .byte)] s := hK.sub [0, 1] rfl
  have hTc : zc_T P (zc_A P) s s.heap := hV.2.2 (fun q => zc_A P q ∨ q = ao) (zc_A P) s s.heap (fun q h => Or.inl h) hT
  have hAc : ∀ q, zA (zcV P) s.heap.size q → zA (zlV P ao cJ) s.heap.size q := fun q h => h.elim (fun h => Or.inl (Or.inl h)) Or.inr
  have hDl : ∀ σ, va_D (zA (zlV P ao cJ) s.heap.size) (zl_ws P ao cJ σ) := fun σ => (zl_D hV haoc σ).weaken (fun _ _ _ h => Or.inl h)
  have haoc : ¬ zA (zcV P) s.heap.size ao := fun h => h.elim haoc (fun h => Nat.not_lt.mpr h haos)
  have hl := lv_entry [.ref (P.1 0), .int x1, .ref ao] (n := 4) (Nat.le_of_ble_eq_true rfl)
  rw [lg_entry_eq]
  generalize (lg_sl [.ref (P.1 0), .int x1, .ref ao] ++ List.replicate (4 - (lg_sl [.ref (P.1 0), .int x1, .ref ao]).length) Slot.unset).toArray = ls at hl ⊢
  have hl : lv_has ls 4 [(0, .ref (P.1 0)), (1, .int x1), (2, .ref ao)] := hl
  refine lv_aload_n hx hb kd_L_run_0 rfl (lv_at hl 2 rfl) ?_
  refine lv_iconst (v := 0) hx hb kd_L_run_1 ki_0 ?_
  refine lv_aload_n hx hb kd_L_run_2 rfl (lv_at hl 0 rfl) ?_
  refine lv_iload_n hx hb kd_L_run_3 rfl (lv_at hl 1 rfl) ?_
  refine zt_callV (own := "FrameMachineLaw") (A0 := zA (zlV P ao cJ) s.heap.size) (H0 := s.heap) (As := [.int x1]) (rest := [.int 0, .ref ao]) (q0 := 0) (ci := 0) hx hb hml hown ht hN kc_L_22 (Nat.le_refl _) (Nat.le_refl _) (Nat.le_refl _) (Nat.le_refl _) (ct_F_run hno hV s0 s.heap.size x1 h) hV hKc (zl_cut hP) rfl hTc (fun U hU hW => zt_S.moved hW (fun a _ => by rw [hU]) hSS) rfl rfl rfl (Nat.le_of_ble_eq_true rfl) hl.1 kd_L_run_4 va_S.rf hAc hex (by decide) (by decide) kw_356 (fun v hv H1 locs1 hP1 hz1 hk1 hS1 => ?_) (fun hv ad H1 locs1 hP1 hz1 hk1 hS1 => ?_)
  · have hPl := zl_join (τ := z.2) hP hP1 (hk1 ao haos haoc)
    have hzr : zr_i s0 z = (0, zs_up (zs_mix z.2 s0) 5 0 v) := by unfold zr_i; rw [hv]
    refine lv_i2l hx hb kd_L_run_7 rfl ?_
    refine va_last (A := zA (zlV P ao cJ) s.heap.size) (H0 := s.heap) (x := v.toInt64) hx hb hK hPl (hDl _) hS1 14 2 rfl rfl (i := 0) zi_in kd_L_run_8 (fun H2 locs2 hP2 hD2 hS2 => ?_)
    refine lv_goto hx hb kd_L_run_9 rfl ?_
    refine lv_iconst (v := 0) hx hb kd_L_run_15 ki_0 ?_
    have hP3 : va_P P.2.1 zc_cl (zl_ws P ao cJ (zs_up (zs_mix z.2 s0) 5 0 (v))) H2 := zl_put rfl hP2
    exact W.iret (v := 0) hx hb hr (fun t ht hW => ⟨⟨0, zs_up (zs_mix z.2 s0) 5 0 (v), rfl, by rw [hzr]; exact ⟨rfl, rfl⟩, by show va_P _ _ _ t.heap; rw [ht]; exact hP3⟩, hS2.F ht⟩) hS2.2.2 kd_L_run_16 (hlocks := hlocks)
  · have hPl := zl_join (τ := z.2) hP hP1 (hk1 ao haos haoc)
    have hzr : zr_i s0 z = (1, zs_mix z.2 s0) := by unfold zr_i; rw [hv]
    refine lv_astore_n hx hb kd_L_run_12 rfl hl (Nat.le_of_ble_eq_true rfl) (lv' := [(3, .ref ad), (0, .ref (P.1 0)), (1, .int x1), (2, .ref ao)]) rfl (fun ls2 hl2 => ?_)
    refine lv_iconst (v := 1) hx hb kd_L_run_13 ki_1 ?_
    exact W.iret (v := 1) hx hb hr (fun t ht hW => ⟨⟨1, zs_mix z.2 s0, rfl, by rw [hzr]; exact ⟨rfl, rfl⟩, by show va_P _ _ _ t.heap; rw [ht]; exact hPl⟩, hS1.F ht⟩) hS1.2.2 kd_L_run_14 (hlocks := hlocks)
-- wrapper comes: room 7 111
def y_L_comes : MethodName := ⟨"FrameMachineLaw", "comes", "(LFrameMachine;I[J)I"⟩
theorem kd_L_comes_0 : decode method_7_code 0 = .ok (.aload_n 2, 1) := by decide +kernel
theorem kd_L_comes_1 : decode method_7_code 1 = .ok (.iconst 0, 1) := by decide +kernel
theorem kd_L_comes_2 : decode method_7_code 2 = .ok (.aload_n 0, 1) := by decide +kernel
theorem kd_L_comes_3 : decode method_7_code 3 = .ok (.iload_n 1, 1) := by decide +kernel
theorem kd_L_comes_4 : decode method_7_code 4 = .ok (.invokevirtual 25, 3) := by decide +kernel
theorem kd_L_comes_7 : decode method_7_code 7 = .ok (.ifCond .eq 7, 3) := by decide +kernel
theorem kd_L_comes_10 : decode method_7_code 10 = .ok (.lconst 1, 1) := by decide +kernel
theorem kd_L_comes_11 : decode method_7_code 11 = .ok (.goto 4, 3) := by decide +kernel
theorem kd_L_comes_14 : decode method_7_code 14 = .ok (.lconst 0, 1) := by decide +kernel
theorem kd_L_comes_15 : decode method_7_code 15 = .ok (.lastore, 1) := by decide +kernel
theorem kd_L_comes_16 : decode method_7_code 16 = .ok (.goto 6, 3) := by decide +kernel
theorem kd_L_comes_19 : decode method_7_code 19 = .ok (.astore_n 3, 1) := by decide +kernel
theorem kd_L_comes_20 : decode method_7_code 20 = .ok (.iconst 1, 1) := by decide +kernel
theorem kd_L_comes_21 : decode method_7_code 21 = .ok (.ireturn, 1) := by decide +kernel
theorem kd_L_comes_22 : decode method_7_code 22 = .ok (.iconst 0, 1) := by decide +kernel
theorem kd_L_comes_23 : decode method_7_code 23 = .ok (.ireturn, 1) := by decide +kernel
theorem kw_750 : (Jvm.Cond.methodLink "FrameMachineLaw" (25 : Nat) ({ cls := "FrameMachine", name := "comes", desc := "(I)Z" } : Jvm.MethodName)) ∈ lw_tbl := zk_4 (List.mem_of_getElem? (i := 30) rfl)
theorem kw_751 : (Jvm.Cond.instanceMethod ({ cls := "FrameMachine", name := "comes", desc := "(I)Z" } : Jvm.MethodName)) ∈ lw_tbl := zk_4 (List.mem_of_getElem? (i := 31) rfl)
theorem kw_752 : (Jvm.Cond.selects "FrameMachine" ({ cls := "FrameMachine", name := "comes", desc := "(I)Z" } : Jvm.MethodName) ({ cls := "FrameMachine", name := "comes", desc := "(I)Z" } : Jvm.MethodName)) ∈ lw_tbl := zk_4 (List.mem_of_getElem? (i := 32) rfl)
theorem kw_753 : (Jvm.Cond.code ({ cls := "FrameMachine", name := "comes", desc := "(I)Z" } : Jvm.MethodName) prog_1_method_7_code (2 : Nat) (Option.some Jvm.ClassFile.FieldType.boolean)) ∈ lw_tbl := zk_4 (List.mem_of_getElem? (i := 33) rfl)
theorem kc_L_25 : zCV "FrameMachineLaw" 25 y_F_comes b_F_comes 2 (some .boolean) 1 := ⟨⟨kw_750, kw_751, kw_752, kw_1, kw_753⟩, by decide +kernel, by decide +kernel, by decide +kernel⟩
theorem cw_L_comes {l : Launch} (hno : l.stackTraces = false) {P : ZP} {ao : Nat} {cJ : ClassId} (hV : ZVok (zcV P)) (haoc : ¬ zc_A P ao) (s0 : ZS) (sz : Nat) (haos : ao < sz) (x1 : Int32) {z : Option Int32 × ZS} (h : f_F_comes s0 x1 = some z) : zMw l y_L_comes method_7_code 4 [(0, 16, 19, 13)] 7 111 (zlV P ao cJ) s0 sz [.ref (P.1 0), .int x1, .ref ao] (zr_b s0 z) := by
  refine va_MetW (cc := method_7_code) (maxL := 4) (ret := some .int) (hh := [(0, 16, 19, 13)]) (by decide +kernel) rfl ?_
  intro p e s m args below meth c s₁ B hml hv
  obtain ⟨rfl, hsz, hP, hK, hT, hN, hSS⟩ := hv
  subst hsz
  have hx := B.exec
  have hb := B.bytes
  have hr := B.returns
  have hlocks := B.notSynchronized
  have hts := atoms_spec (ws := Cond.codeWith y_L_comes method_7_code 4 (some .int) [(0, 16, 19, 13)] :: zw_w) B.pre
  have ht : ∀ w ∈ zw_w, w.before _ s = true := fun w hw => hts w (List.mem_cons_of_mem _ hw)
  have hown : s.vm.findClass "FrameMachineLaw" = some m.cls := findClass_of_methodNamed B.named
  have hex : c.exceptionTable.toList.map (fun h => (h.startPc, h.endPc, h.handlerPc, h.catchType)) = [(0, 16, 19, 13)] := by
    obtain ⟨m9, meth9, c9, hn9, h1, h2, -, -, h5, -⟩ := Cond.codeWith_spec (hts _ List.mem_cons_self)
    cases B.named.symm.trans hn9
    cases B.method.symm.trans h1
    cases (Stand.of_body B).code.symm.trans h2
    exact h5
  have hKc : va_K P.2.1 zc_cl [(P.2.2.1, .int), (P.2.2.2, .byte)] s := hK.sub [0, 1] rfl
  have hTc : zc_T P (zc_A P) s s.heap := hV.2.2 (fun q => zc_A P q ∨ q = ao) (zc_A P) s s.heap (fun q h => Or.inl h) hT
  have hAc : ∀ q, zA (zcV P) s.heap.size q → zA (zlV P ao cJ) s.heap.size q := fun q h => h.elim (fun h => Or.inl (Or.inl h)) Or.inr
  have hDl : ∀ σ, va_D (zA (zlV P ao cJ) s.heap.size) (zl_ws P ao cJ σ) := fun σ => (zl_D hV haoc σ).weaken (fun _ _ _ h => Or.inl h)
  have haoc : ¬ zA (zcV P) s.heap.size ao := fun h => h.elim haoc (fun h => Nat.not_lt.mpr h haos)
  have hl := lv_entry [.ref (P.1 0), .int x1, .ref ao] (n := 4) (Nat.le_of_ble_eq_true rfl)
  rw [lg_entry_eq]
  generalize (lg_sl [.ref (P.1 0), .int x1, .ref ao] ++ List.replicate (4 - (lg_sl [.ref (P.1 0), .int x1, .ref ao]).length) Slot.unset).toArray = ls at hl ⊢
  have hl : lv_has ls 4 [(0, .ref (P.1 0)), (1, .int x1), (2, .ref ao)] := hl
  refine lv_aload_n hx hb kd_L_comes_0 rfl (lv_at hl 2 rfl) ?_
  refine lv_iconst (v := 0) hx hb kd_L_comes_1 ki_0 ?_
  refine lv_aload_n hx hb kd_L_comes_2 rfl (lv_at hl 0 rfl) ?_
  refine lv_iload_n hx hb kd_L_comes_3 rfl (lv_at hl 1 rfl) ?_
  refine zt_callV (own := "FrameMachineLaw") (A0 := zA (zlV P ao cJ) s.heap.size) (H0 := s.heap) (As := [.int x1]) (rest := [.int 0, .ref ao]) (q0 := 0) (ci := 0) hx hb hml hown ht hN kc_L_25 (Nat.le_refl _) (Nat.le_refl _) (Nat.le_refl _) (Nat.le_refl _) (ct_F_comes hno hV s0 s.heap.size x1 h) hV hKc (zl_cut hP) rfl hTc (fun U hU hW => zt_S.moved hW (fun a _ => by rw [hU]) hSS) rfl rfl rfl (Nat.le_of_ble_eq_true rfl) hl.1 kd_L_comes_4 va_S.rf hAc hex (by decide) (by decide) kw_356 (fun v hv H1 locs1 hP1 hz1 hk1 hS1 => ?_) (fun hv ad H1 locs1 hP1 hz1 hk1 hS1 => ?_)
  · have hPl := zl_join (τ := z.2) hP hP1 (hk1 ao haos haoc)
    refine lv_if_eq hx hb kd_L_comes_7 rfl (fun h0 => ?_) (fun h0 => ?_)
    · have hzr : zr_b s0 z = (0, zs_up (zs_mix z.2 s0) 5 0 0) := by unfold zr_b; rw [hv]; simp [h0]
      refine lv_lconst (v := 0) hx hb kd_L_comes_14 rfl ?_
      refine va_last (A := zA (zlV P ao cJ) s.heap.size) (H0 := s.heap) (x := 0) hx hb hK hPl (hDl _) hS1 14 2 rfl rfl (i := 0) zi_in kd_L_comes_15 (fun H2 locs2 hP2 hD2 hS2 => ?_)
      refine lv_goto hx hb kd_L_comes_16 rfl ?_
      refine lv_iconst (v := 0) hx hb kd_L_comes_22 ki_0 ?_
      have hP3 : va_P P.2.1 zc_cl (zl_ws P ao cJ (zs_up (zs_mix z.2 s0) 5 0 (0))) H2 := zl_put rfl hP2
      exact W.iret (v := 0) hx hb hr (fun t ht hW => ⟨⟨0, zs_up (zs_mix z.2 s0) 5 0 (0), rfl, by rw [hzr]; exact ⟨rfl, rfl⟩, by show va_P _ _ _ t.heap; rw [ht]; exact hP3⟩, hS2.F ht⟩) hS2.2.2 kd_L_comes_23 (hlocks := hlocks)
    · have hzr : zr_b s0 z = (0, zs_up (zs_mix z.2 s0) 5 0 1) := by unfold zr_b; rw [hv]; simp [h0]
      refine lv_lconst (v := 1) hx hb kd_L_comes_10 rfl ?_
      refine lv_goto hx hb kd_L_comes_11 rfl ?_
      refine va_last (A := zA (zlV P ao cJ) s.heap.size) (H0 := s.heap) (x := 1) hx hb hK hPl (hDl _) hS1 14 2 rfl rfl (i := 0) zi_in kd_L_comes_15 (fun H2 locs2 hP2 hD2 hS2 => ?_)
      refine lv_goto hx hb kd_L_comes_16 rfl ?_
      refine lv_iconst (v := 0) hx hb kd_L_comes_22 ki_0 ?_
      have hP3 : va_P P.2.1 zc_cl (zl_ws P ao cJ (zs_up (zs_mix z.2 s0) 5 0 (1))) H2 := zl_put rfl hP2
      exact W.iret (v := 0) hx hb hr (fun t ht hW => ⟨⟨0, zs_up (zs_mix z.2 s0) 5 0 (1), rfl, by rw [hzr]; exact ⟨rfl, rfl⟩, by show va_P _ _ _ t.heap; rw [ht]; exact hP3⟩, hS2.F ht⟩) hS2.2.2 kd_L_comes_23 (hlocks := hlocks)
  · have hPl := zl_join (τ := z.2) hP hP1 (hk1 ao haos haoc)
    have hzr : zr_b s0 z = (1, zs_mix z.2 s0) := by unfold zr_b; rw [hv]
    refine lv_astore_n hx hb kd_L_comes_19 rfl hl (Nat.le_of_ble_eq_true rfl) (lv' := [(3, .ref ad), (0, .ref (P.1 0)), (1, .int x1), (2, .ref ao)]) rfl (fun ls2 hl2 => ?_)
    refine lv_iconst (v := 1) hx hb kd_L_comes_20 ki_1 ?_
    exact W.iret (v := 1) hx hb hr (fun t ht hW => ⟨⟨1, zs_mix z.2 s0, rfl, by rw [hzr]; exact ⟨rfl, rfl⟩, by show va_P _ _ _ t.heap; rw [ht]; exact hPl⟩, hS1.F ht⟩) hS1.2.2 kd_L_comes_21 (hlocks := hlocks)
-- wrapper get: room 7 111
def y_L_get : MethodName := ⟨"FrameMachineLaw", "get", "(LFrameMachine;I[J)I"⟩
theorem kd_L_get_0 : decode method_8_code 0 = .ok (.aload_n 2, 1) := by decide +kernel
theorem kd_L_get_1 : decode method_8_code 1 = .ok (.iconst 0, 1) := by decide +kernel
theorem kd_L_get_2 : decode method_8_code 2 = .ok (.aload_n 0, 1) := by decide +kernel
theorem kd_L_get_3 : decode method_8_code 3 = .ok (.iload_n 1, 1) := by decide +kernel
theorem kd_L_get_4 : decode method_8_code 4 = .ok (.invokevirtual 29, 3) := by decide +kernel
theorem kd_L_get_7 : decode method_8_code 7 = .ok (.i2l, 1) := by decide +kernel
theorem kd_L_get_8 : decode method_8_code 8 = .ok (.lastore, 1) := by decide +kernel
theorem kd_L_get_9 : decode method_8_code 9 = .ok (.goto 6, 3) := by decide +kernel
theorem kd_L_get_12 : decode method_8_code 12 = .ok (.astore_n 3, 1) := by decide +kernel
theorem kd_L_get_13 : decode method_8_code 13 = .ok (.iconst 1, 1) := by decide +kernel
theorem kd_L_get_14 : decode method_8_code 14 = .ok (.ireturn, 1) := by decide +kernel
theorem kd_L_get_15 : decode method_8_code 15 = .ok (.iconst 0, 1) := by decide +kernel
theorem kd_L_get_16 : decode method_8_code 16 = .ok (.ireturn, 1) := by decide +kernel
theorem kw_762 : (Jvm.Cond.methodLink "FrameMachineLaw" (29 : Nat) ({ cls := "FrameMachine", name := "get", desc := "(I)I" } : Jvm.MethodName)) ∈ lw_tbl := zk_4 (List.mem_of_getElem? (i := 42) rfl)
theorem kw_763 : (Jvm.Cond.instanceMethod ({ cls := "FrameMachine", name := "get", desc := "(I)I" } : Jvm.MethodName)) ∈ lw_tbl := zk_4 (List.mem_of_getElem? (i := 43) rfl)
theorem kw_764 : (Jvm.Cond.selects "FrameMachine" ({ cls := "FrameMachine", name := "get", desc := "(I)I" } : Jvm.MethodName) ({ cls := "FrameMachine", name := "get", desc := "(I)I" } : Jvm.MethodName)) ∈ lw_tbl := zk_4 (List.mem_of_getElem? (i := 44) rfl)
theorem kw_765 : (Jvm.Cond.code ({ cls := "FrameMachine", name := "get", desc := "(I)I" } : Jvm.MethodName) prog_1_method_9_code (2 : Nat) (Option.some Jvm.ClassFile.FieldType.int)) ∈ lw_tbl := zk_4 (List.mem_of_getElem? (i := 45) rfl)
theorem kc_L_29 : zCV "FrameMachineLaw" 29 y_F_get b_F_get 2 (some .int) 1 := ⟨⟨kw_762, kw_763, kw_764, kw_1, kw_765⟩, by decide +kernel, by decide +kernel, by decide +kernel⟩
theorem cw_L_get {l : Launch} (hno : l.stackTraces = false) {P : ZP} {ao : Nat} {cJ : ClassId} (hV : ZVok (zcV P)) (haoc : ¬ zc_A P ao) (s0 : ZS) (sz : Nat) (haos : ao < sz) (x1 : Int32) {z : Option Int32 × ZS} (h : f_F_get s0 x1 = some z) : zMw l y_L_get method_8_code 4 [(0, 9, 12, 13)] 7 111 (zlV P ao cJ) s0 sz [.ref (P.1 0), .int x1, .ref ao] (zr_i s0 z) := by
  refine va_MetW (cc := method_8_code) (maxL := 4) (ret := some .int) (hh := [(0, 9, 12, 13)]) (by decide +kernel) rfl ?_
  intro p e s m args below meth c s₁ B hml hv
  obtain ⟨rfl, hsz, hP, hK, hT, hN, hSS⟩ := hv
  subst hsz
  have hx := B.exec
  have hb := B.bytes
  have hr := B.returns
  have hlocks := B.notSynchronized
  have hts := atoms_spec (ws := Cond.codeWith y_L_get method_8_code 4 (some .int) [(0, 9, 12, 13)] :: zw_w) B.pre
  have ht : ∀ w ∈ zw_w, w.before _ s = true := fun w hw => hts w (List.mem_cons_of_mem _ hw)
  have hown : s.vm.findClass "FrameMachineLaw" = some m.cls := findClass_of_methodNamed B.named
  have hex : c.exceptionTable.toList.map (fun h => (h.startPc, h.endPc, h.handlerPc, h.catchType)) = [(0, 9, 12, 13)] := by
    obtain ⟨m9, meth9, c9, hn9, h1, h2, -, -, h5, -⟩ := Cond.codeWith_spec (hts _ List.mem_cons_self)
    cases B.named.symm.trans hn9
    cases B.method.symm.trans h1
    cases (Stand.of_body B).code.symm.trans h2
    exact h5
  have hKc : va_K P.2.1 zc_cl [(P.2.2.1, .int), (P.2.2.2, .byte)] s := hK.sub [0, 1] rfl
  have hTc : zc_T P (zc_A P) s s.heap := hV.2.2 (fun q => zc_A P q ∨ q = ao) (zc_A P) s s.heap (fun q h => Or.inl h) hT
  have hAc : ∀ q, zA (zcV P) s.heap.size q → zA (zlV P ao cJ) s.heap.size q := fun q h => h.elim (fun h => Or.inl (Or.inl h)) Or.inr
  have hDl : ∀ σ, va_D (zA (zlV P ao cJ) s.heap.size) (zl_ws P ao cJ σ) := fun σ => (zl_D hV haoc σ).weaken (fun _ _ _ h => Or.inl h)
  have haoc : ¬ zA (zcV P) s.heap.size ao := fun h => h.elim haoc (fun h => Nat.not_lt.mpr h haos)
  have hl := lv_entry [.ref (P.1 0), .int x1, .ref ao] (n := 4) (Nat.le_of_ble_eq_true rfl)
  rw [lg_entry_eq]
  generalize (lg_sl [.ref (P.1 0), .int x1, .ref ao] ++ List.replicate (4 - (lg_sl [.ref (P.1 0), .int x1, .ref ao]).length) Slot.unset).toArray = ls at hl ⊢
  have hl : lv_has ls 4 [(0, .ref (P.1 0)), (1, .int x1), (2, .ref ao)] := hl
  refine lv_aload_n hx hb kd_L_get_0 rfl (lv_at hl 2 rfl) ?_
  refine lv_iconst (v := 0) hx hb kd_L_get_1 ki_0 ?_
  refine lv_aload_n hx hb kd_L_get_2 rfl (lv_at hl 0 rfl) ?_
  refine lv_iload_n hx hb kd_L_get_3 rfl (lv_at hl 1 rfl) ?_
  refine zt_callV (own := "FrameMachineLaw") (A0 := zA (zlV P ao cJ) s.heap.size) (H0 := s.heap) (As := [.int x1]) (rest := [.int 0, .ref ao]) (q0 := 0) (ci := 0) hx hb hml hown ht hN kc_L_29 (Nat.le_refl _) (Nat.le_refl _) (Nat.le_refl _) (Nat.le_refl _) (ct_F_get hno hV s0 s.heap.size x1 h) hV hKc (zl_cut hP) rfl hTc (fun U hU hW => zt_S.moved hW (fun a _ => by rw [hU]) hSS) rfl rfl rfl (Nat.le_of_ble_eq_true rfl) hl.1 kd_L_get_4 va_S.rf hAc hex (by decide) (by decide) kw_356 (fun v hv H1 locs1 hP1 hz1 hk1 hS1 => ?_) (fun hv ad H1 locs1 hP1 hz1 hk1 hS1 => ?_)
  · have hPl := zl_join (τ := z.2) hP hP1 (hk1 ao haos haoc)
    have hzr : zr_i s0 z = (0, zs_up (zs_mix z.2 s0) 5 0 v) := by unfold zr_i; rw [hv]
    refine lv_i2l hx hb kd_L_get_7 rfl ?_
    refine va_last (A := zA (zlV P ao cJ) s.heap.size) (H0 := s.heap) (x := v.toInt64) hx hb hK hPl (hDl _) hS1 14 2 rfl rfl (i := 0) zi_in kd_L_get_8 (fun H2 locs2 hP2 hD2 hS2 => ?_)
    refine lv_goto hx hb kd_L_get_9 rfl ?_
    refine lv_iconst (v := 0) hx hb kd_L_get_15 ki_0 ?_
    have hP3 : va_P P.2.1 zc_cl (zl_ws P ao cJ (zs_up (zs_mix z.2 s0) 5 0 (v))) H2 := zl_put rfl hP2
    exact W.iret (v := 0) hx hb hr (fun t ht hW => ⟨⟨0, zs_up (zs_mix z.2 s0) 5 0 (v), rfl, by rw [hzr]; exact ⟨rfl, rfl⟩, by show va_P _ _ _ t.heap; rw [ht]; exact hP3⟩, hS2.F ht⟩) hS2.2.2 kd_L_get_16 (hlocks := hlocks)
  · have hPl := zl_join (τ := z.2) hP hP1 (hk1 ao haos haoc)
    have hzr : zr_i s0 z = (1, zs_mix z.2 s0) := by unfold zr_i; rw [hv]
    refine lv_astore_n hx hb kd_L_get_12 rfl hl (Nat.le_of_ble_eq_true rfl) (lv' := [(3, .ref ad), (0, .ref (P.1 0)), (1, .int x1), (2, .ref ao)]) rfl (fun ls2 hl2 => ?_)
    refine lv_iconst (v := 1) hx hb kd_L_get_13 ki_1 ?_
    exact W.iret (v := 1) hx hb hr (fun t ht hW => ⟨⟨1, zs_mix z.2 s0, rfl, by rw [hzr]; exact ⟨rfl, rfl⟩, by show va_P _ _ _ t.heap; rw [ht]; exact hPl⟩, hS1.F ht⟩) hS1.2.2 kd_L_get_14 (hlocks := hlocks)
