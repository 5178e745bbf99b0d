/-! The law's own rows: its script, its out array, calls of the two sides and of the wrappers. -/
def ZQ (E : ZE) (P PM : ZP) (ao : Nat) (cJ : ClassId) (b Ls : Nat) (xs : Nat → Int32) : Prop :=
  ZVok (zcV P) ∧ ZVok (zmV PM) ∧ va_K P.2.1 zc_cl [(P.2.2.1, .int), (P.2.2.2, .byte), (cJ, .long)] E.2.2.2.2.1 ∧ va_K PM.2.1 zm_cl [(PM.2.2.1, .int), (PM.2.2.2, .byte)] E.2.2.2.2.1 ∧ zc_T P (fun q => E.2.2.2.2.1.heap.size ≤ q) E.2.2.2.2.1 E.2.2.2.2.1.heap ∧
  (∀ q, zc_A P q → E.2.2.2.2.1.heap.size ≤ q) ∧ (∀ q, zm_A PM q → E.2.2.2.2.1.heap.size ≤ q) ∧ E.2.2.2.2.1.heap.size ≤ ao ∧ ¬ zc_A P ao ∧ ¬ zm_A PM ao ∧ (∀ q, zc_A P q → ¬ zm_A PM q) ∧ zt_S E.2.2.2.2.1 ∧ E.2.1.stackTraces = false ∧
  va_X b Ls xs E.2.2.2.2.1 E.2.2.2.2.1.heap ∧ b < E.2.2.2.2.1.heap.size ∧ 1050 ≤ E.2.2.2.1.cells ∧ 10436 ≤ E.2.2.2.1.slots
def zI (E : ZE) (P PM : ZP) (ao : Nat) (cJ : ClassId) (σ : ZS × ZS) (H : Heap) (locs : List Loc) : Prop :=
  va_P P.2.1 zc_cl (zl_ws P ao cJ σ.1) H ∧ va_P PM.2.1 zm_cl (zm_ws PM σ.2) H ∧ va_S (fun q => E.2.2.2.2.1.heap.size ≤ q) E.2.2.2.2.1.heap H locs
theorem zI_ao {E : ZE} {P PM : ZP} {ao : Nat} {cJ : ClassId} {σ : ZS × ZS} {H : Heap} {locs : List Loc} (h : zI E P PM ao cJ σ H locs) : ao < H.size :=
  (h.1 14 (ao, .inl (cJ, 1, .inr (.inl (fun _ => (σ.1 5 0).toInt64)))) rfl).lt
section ZQR
variable {ρ : Type} {E : ZE} {P PM : ZP} {ao : Nat} {cJ : ClassId} {b Ls : Nat} {xs : Nat → Int32} {cc : ByteArray} {nL : Nat} {ret : Option FieldType} {fr lo : Nat} {F : ρ → State → Prop} {cells slots pc : Nat} {L : List (Nat × Value)} {st rest : List Value} {σ : ZS × ZS} {r : Option ρ} {x y : Int32}
theorem zl_sld (q : Nat) (X : ZX0 E "FrameMachineLaw" cc nL ret fr lo) (Z : ZQ E P PM ao cJ b Ls xs) (d : decode cc pc = .ok (.iaload, 1)) (hin : ¬ (y < 0 ∨ Ls ≤ y.toNatClampNeg)) (hq : pc + 1 = q) (k : ZL E (zI E P PM ao cJ) nL F cells slots q L (.int (xs y.toNatClampNeg) :: st) σ r) : ZL E (zI E P PM ao cJ) nL F cells slots pc L (.int y :: .ref b :: st) σ r := by
  subst hq
  obtain ⟨-, -, -, -, -, -, -, -, -, -, -, -, -, hX, hb, -, -⟩ := Z
  exact fun z hz H locs ls hl hI => va_sld (zy_x X) (zy_c X) hX hb (Nat.not_le.mpr hb) hI.2.2 hin d (k z hz H locs ls hl hI)
theorem zl_slen (q : Nat) (X : ZX0 E "FrameMachineLaw" cc nL ret fr lo) (Z : ZQ E P PM ao cJ b Ls xs) (d : decode cc pc = .ok (.arraylength, 1)) (hq : pc + 1 = q) (k : ZL E (zI E P PM ao cJ) nL F cells slots q L (.int (Int32.ofNat Ls) :: st) σ r) : ZL E (zI E P PM ao cJ) nL F cells slots pc L (.ref b :: st) σ r := by
  subst hq
  obtain ⟨-, -, -, -, -, -, -, -, -, -, -, -, -, hX, hb, -, -⟩ := Z
  exact fun z hz H locs ls hl hI => va_slen (zy_x X) (zy_c X) hX hb (Nat.not_le.mpr hb) hI.2.2 d (k z hz H locs ls hl hI)
theorem zl_lald (q : Nat) (X : ZX0 E "FrameMachineLaw" cc nL ret fr lo) (Z : ZQ E P PM ao cJ b Ls xs) (d : decode cc pc = .ok (.laload, 1)) (hq : pc + 1 = q) (k : ZL E (zI E P PM ao cJ) nL F cells slots q L (.long (σ.1 5 0).toInt64 :: st) σ r) : ZL E (zI E P PM ao cJ) nL F cells slots pc L (.int 0 :: .ref ao :: st) σ r := by
  subst hq
  obtain ⟨-, -, hK, -⟩ := Z
  exact fun z hz H locs ls hl hI => va_lald (f := fun _ => (σ.1 5 0).toInt64) (zy_x X) (zy_c X) hK hI.1 14 2 rfl rfl zi_in d (k z hz H locs ls hl hI)
/-- a call of the class's own method -/
theorem zl_cC (q : Nat) {yy : MethodName} {index maxL fr' lo' N : Nat} {bytes : ByteArray} {ret' : Option FieldType} {T : u_T} {As : List Value} {f : Option (Int32 × ZS)} {K : Int32 × ZS → Option ρ} (X : ZX0 E "FrameMachineLaw" cc nL ret fr lo) (Z : ZQ E P PM ao cJ b Ls xs) (hC : zCV "FrameMachineLaw" index yy bytes maxL ret' As.length) (hfr : fr' + 1 ≤ fr) (hlo : 8 + (maxL + 11) + lo' ≤ lo)
    (hM : ∀ p, f = some p → zMi E.2.1 yy bytes maxL ret' fr' lo' (zcV P) σ.1 (.ref (P.1 0) :: As) p) (hc : zc_cl[0]? = some (yy.cls, T, N)) (hst : st = As.reverse ++ .ref (P.1 0) :: rest) (hr : (rest.map fun v => v.category).sum ≤ 8) (hcl : cells ≤ 1050) (hsl : slots ≤ 10436) (d : decode cc pc = .ok (.invokevirtual index, 3)) (hq : pc + 3 = q)
    (kk : ∀ p : Int32 × ZS, ZL E (zI E P PM ao cJ) nL F cells slots q L (.int p.1 :: rest) (zs_mix p.2 σ.1, σ.2) (K p)) : ZL E (zI E P PM ao cJ) nL F cells slots pc L st σ (f.bind K) := by
  subst hq
  intro z hz H locs ls hl hI
  have hao := zI_ao hI
  obtain ⟨hPl, hPm, hS⟩ := hI
  obtain ⟨hVc, hVm, hKl, hKm, hT, hcA, hmA, haA, hac, ham, hcm, hSS, hno, hX, hb, hRc, hRs⟩ := Z
  obtain ⟨p, hp, hz⟩ := Option.bind_eq_some_iff.mp hz
  have hKc : va_K P.2.1 zc_cl [(P.2.2.1, .int), (P.2.2.2, .byte)] E.2.2.2.2.1 := hKl.sub [0, 1] rfl
  have hPc := zl_cut hPl
  refine va_calli (A0 := fun q => E.2.2.2.2.1.heap.size ≤ q) (H0 := E.2.2.2.2.1.heap) (va_runV (C := yy.cls) (As := As) (rest := rest) ⟨zy_x X, zy_c X, zy_m X, zy_o X, zy_t X⟩ (hM p hp) (cwV As.length (zy_t X) (zg_V hC) rfl rfl rfl ⟨rfl, hC.2⟩ ⟨Nat.le_trans hfr (zy_f X), Nat.le_trans hlo (zy_w X)⟩)
    ⟨zPc_blind hVc σ.1 _, va_recv (q0 := 0) hKc hPc hc rfl, fun U hU hW => ⟨rfl, by rw [hU]; exact hPc, va_K.moved hW.alike hKc, ?_, zw_N.warm hW (zy_n X)⟩⟩ rfl rfl hl.1 hst (lv_room hr) d ⟨by omega, by omega⟩) hS (fun q _ h => hcA q h) hcA (fun r u t H1 locs1 ht hvm hp2 hB hz1 hk1 hS1 => ?_)
  · exact hVc.2.2 (fun q => E.2.2.2.2.1.heap.size ≤ q) _ U _ hcA (hVc.2.1 _ E.2.2.2.2.1 U E.2.2.2.2.1.heap _ hW.alike (fun q h1 h2 => by rw [hU]; exact hS.2.1 q h1 h2) hT)
  · obtain ⟨rfl, rfl⟩ := hp2
    refine kk p z hz H1 locs1 ls hl ⟨zl_join (τ := p.2) hPl (by rw [← ht]; exact hB) (hk1 ao hao hac), hPm.kept (fun k q hk => hk1 q.1 (hPm k q hk).lt (fun h => hcm _ h ((hVm.1 σ.2).2 k q hk))), hS1⟩
/-- a call of the reference's method -/
theorem zl_cM (q : Nat) {yy : MethodName} {index maxL fr' lo' N : Nat} {bytes : ByteArray} {ret' : Option FieldType} {T : u_T} {As : List Value} {f : Option (Int32 × ZS)} {K : Int32 × ZS → Option ρ} (X : ZX0 E "FrameMachineLaw" cc nL ret fr lo) (Z : ZQ E P PM ao cJ b Ls xs) (hC : zCV "FrameMachineLaw" index yy bytes maxL ret' As.length) (hfr : fr' + 1 ≤ fr) (hlo : 8 + (maxL + 11) + lo' ≤ lo)
    (hM : ∀ p, f = some p → zMi E.2.1 yy bytes maxL ret' fr' lo' (zmV PM) σ.2 (.ref (PM.1 0) :: As) p) (hc : zm_cl[0]? = some (yy.cls, T, N)) (hst : st = As.reverse ++ .ref (PM.1 0) :: rest) (hr : (rest.map fun v => v.category).sum ≤ 8) (hcl : cells ≤ 1050) (hsl : slots ≤ 10436) (d : decode cc pc = .ok (.invokevirtual index, 3)) (hq : pc + 3 = q)
    (kk : ∀ p : Int32 × ZS, ZL E (zI E P PM ao cJ) nL F cells slots q L (.int p.1 :: rest) (σ.1, p.2) (K p)) : ZL E (zI E P PM ao cJ) nL F cells slots pc L st σ (f.bind K) := by
  subst hq
  intro z hz H locs ls hl hI
  have hao := zI_ao hI
  obtain ⟨hPl, hPm, hS⟩ := hI
  obtain ⟨hVc, hVm, hKl, hKm, hT, hcA, hmA, haA, hac, ham, hcm, hSS, hno, hX, hb, hRc, hRs⟩ := Z
  obtain ⟨p, hp, hz⟩ := Option.bind_eq_some_iff.mp hz
  refine va_calli (A0 := fun q => E.2.2.2.2.1.heap.size ≤ q) (H0 := E.2.2.2.2.1.heap) (va_runV (C := yy.cls) (As := As) (rest := rest) ⟨zy_x X, zy_c X, zy_m X, zy_o X, zy_t X⟩ (hM p hp) (cwV As.length (zy_t X) (zg_V hC) rfl rfl rfl ⟨rfl, hC.2⟩ ⟨Nat.le_trans hfr (zy_f X), Nat.le_trans hlo (zy_w X)⟩)
    ⟨zPc_blind hVm σ.2 _, va_recv (q0 := 0) hKm hPm hc rfl, fun U hU hW => ⟨rfl, by rw [hU]; exact hPm, va_K.moved hW.alike hKm, trivial, zw_N.warm hW (zy_n X)⟩⟩ rfl rfl hl.1 hst (lv_room hr) d ⟨by omega, by omega⟩) hS (fun q _ h => hmA q h) hmA (fun r u t H1 locs1 ht hvm hp2 hB hz1 hk1 hS1 => ?_)
  obtain ⟨rfl, rfl⟩ := hp2
  refine kk p z hz H1 locs1 ls hl ⟨hPl.kept (fun k q hk => hk1 q.1 (hPl k q hk).lt (fun h => ?_)), by rw [← ht]; exact hB, hS1⟩
  rcases (zl_D (cJ := cJ) hVc hac σ.1).2 k q hk with h1 | h1
  · exact hcm _ h1 h
  · rw [h1] at h; exact ham h
/-- a call of a wrapper -/
theorem zt_runSW {p : Program} {l : Launch} {e : Env} {R : Room} {s : State} {m : MethodId} {args : Array Value} {below : List Frame} {meth : Method} {c : Code} {H : Heap} {locs : List Loc} {cells slots : Nat} {yy : MethodName} {bytes cc : ByteArray} {maxL nL mc ms index : Nat} {ret : Option FieldType} {hh : List (Nat × Nat × Nat × Nat)} {rm : Room} {Pc : Array Value → State → Prop} {Qc : Array Value → State → Outcome → State → Prop} {free : Addr → Prop} {own : String} {As rest : List Value} {g : JFrame}
    (S : CallFix p m c cc nL s args zw_w own) (hM : Met l yy (Cond.codeWith yy bytes maxL ret hh :: zw_w) rm Pc Qc mc ms free) (h1 : Cond.methodLink own index yy ∈ lw_tbl) (h2 : Cond.static yy ∈ lw_tbl) (h3 : Cond.initialized yy.cls ∈ lw_tbl) (h4 : Cond.codeWith yy bytes maxL ret hh ∈ lw_tbl)
    (hy : yy.cls ≠ "java/lang/invoke/MethodHandle" ∧ yy.cls ≠ "java/lang/invoke/VarHandle" ∧ (parseMethodDescriptor yy.desc).map (fun d => d.parameters.length) = some As.length) (hR : rm.frames + 1 ≤ R.frames ∧ 8 + (maxL + 11) + rm.locals ≤ R.locals) (hrc : rm.cells = mc) (hrs : rm.slots = ms) (hp : PreS s H Pc As)
    (hg : g.method = m) (hsize : g.locals.size = nL) (hstack : g.stack = As.reverse ++ rest) (hW : 2 * g.monitorRoom + (rest.map fun v => v.category).sum ≤ 8) (hdg : decode cc g.pc = .ok (.invokestatic index, 3)) (hf : cells + mc ≤ R.cells ∧ slots + ms ≤ R.slots) :
    va_Run p l e R s m args below meth c H locs cells slots mc ms g rest (Qc As.toArray) (free) := by
  obtain ⟨hx, hb, hml, ho, ht⟩ := S
  have hG : GoodIn zw_w (Cond.codeWith yy bytes maxL ret hh :: zw_w) := by
    intro w hw
    rcases List.mem_cons.mp hw with rfl | h
    · exact ⟨zw_in h4 rfl, zw_good (zw_in h4 rfl)⟩
    · exact ⟨h, zw_good h⟩
  have hws := pay_in ht hG
  have hK : Back l R p e below s args yy 3 8 (PreOf R mc ms Pc) (PostOf Qc mc ms free) := va_backW (hh := hh) (bytes := bytes) (maxL := maxL) (ret := ret) hM hp.1 hrc hrs hR.1 hR.2 hws List.mem_cons_self (fun a' U hW => hws _ (List.mem_cons_of_mem _ (zw_in h3 rfl)) a' U hW)
  intro T hT X
  obtain ⟨mk, methM, cM, hnamed, hmethM, -, -, -, -, -, -, hsigM⟩ := Cond.codeWith_spec (ht _ (zw_in h4 rfl))
  have hstatic : methM.isStatic = true := Cond.static_spec hnamed hmethM (ht _ (zw_in h2 rfl))
  obtain ⟨kP, hkP, -⟩ := className_of_methodNamed hnamed
  have hinitP : kP.init = .initialized := Cond.initialized_spec (findClass_of_methodNamed hnamed) hkP (ht _ (zw_in h3 rfl))
  have hlen : As.length = methM.sig.parameters.length := by
    have h5 := hy.2.2
    rw [hsigM] at h5
    exact (Option.some.inj h5).symm
  obtain ⟨vm₁, X₁, hstep₁⟩ := X.invokestatic hx ho (ht _ (zw_in h1 rfl)) hnamed hmethM hstatic hkP hinitP ⟨hy.1, hy.2.1⟩ (g := g) hg (argsL := As) (rest := rest) hlen hstack (by rw [hb]; exact hdg)
  obtain ⟨v, B, X', hpost, hsteps⟩ := hK m meth c ⟨T.setVm vm₁, locs, cells, slots⟩ { g with stack := rest } (.invokestatic index) mk As.toArray X₁ hg (hsize.trans hml.symm) (by rw [hb]; exact hdg) hW (X₁.named hnamed) ⟨hf.1, hf.2, hp.2 (T.setVm vm₁) hT X₁.warmed⟩
  obtain ⟨U', l2, c2, s2⟩ := B
  obtain ⟨g', mk', t, Lx, e1, e2, hq, h6, hL, h7, h8⟩ := hpost
  dsimp only [Pt.U, Pt.locs, Pt.cells, Pt.slots] at X' e1 e2 h6 h7 h8 hsteps
  subst h6; subst h7; subst h8
  exact ⟨v, (T.setVm vm₁).calling g' mk' As.toArray, t, U', Lx, hT, X', hL, e1, e2, hq, fun target h => hstep₁ _ fun acts => by rw [doInvoke_state]; exact hsteps.trans h⟩
theorem zPt_blind {V : ZV} (hV : ZVok V) (σ : ZS) (sz : Nat) (av : List Value) : FrameBlind (zPt V σ sz av) := by
  intro a U g mk h
  obtain ⟨h0, hsz, hP, hK, hT, hN, hSS⟩ := h
  exact ⟨h0, hsz, hP, va_K.moved (u := U) (U := U.calling g mk a) (Vm.Alike.refl U.vm) hK, hV.2.1 _ U (U.calling g mk a) _ _ (Vm.Alike.refl U.vm) (fun _ _ _ => rfl) hT, zw_N.same (u := U) (U := U.calling g mk a) rfl hN, zt_S.moved (s := U) (U := U.calling g mk a) (State.WarmedH.refl U) (fun _ _ => rfl) hSS⟩
theorem zl_W (q : Nat) {yy : MethodName} {index maxL fr' lo' : Nat} {bytes : ByteArray} {hh : List (Nat × Nat × Nat × Nat)} {As : List Value} {f : Option (Option Int32 × ZS)} {g : Option Int32 × ZS → Int32 × ZS} {K : Int32 × ZS → Option ρ} (X : ZX0 E "FrameMachineLaw" cc nL ret fr lo) (Z : ZQ E P PM ao cJ b Ls xs)
    (h1 : Cond.methodLink "FrameMachineLaw" index yy ∈ lw_tbl) (h2 : Cond.static yy ∈ lw_tbl) (h3 : Cond.initialized yy.cls ∈ lw_tbl) (h4 : Cond.codeWith yy bytes maxL (some .int) hh ∈ lw_tbl)
    (hy : yy.cls ≠ "java/lang/invoke/MethodHandle" ∧ yy.cls ≠ "java/lang/invoke/VarHandle" ∧ (parseMethodDescriptor yy.desc).map (fun d => d.parameters.length) = some As.length) (hfr : fr' + 1 ≤ fr) (hlo : 8 + (maxL + 11) + lo' ≤ lo)
    (hM : ∀ (sz : Nat), ao < sz → ∀ p, f = some p → zMw E.2.1 yy bytes maxL hh fr' lo' (zlV P ao cJ) σ.1 sz As (g p)) (hst : st = As.reverse ++ rest) (hr : (rest.map fun v => v.category).sum ≤ 8) (hcl : cells + 1 ≤ 1050) (hsl : slots + 6 ≤ 10436) (d : decode cc pc = .ok (.invokestatic index, 3)) (hq : pc + 3 = q)
    (kk : ∀ p : Int32 × ZS, ZL E (zI E P PM ao cJ) nL F (cells + 1) (slots + 6) q L (.int p.1 :: rest) (p.2, σ.2) (K p)) : ZL E (zI E P PM ao cJ) nL F cells slots pc L st σ (f.bind fun z => zs_nm (g z) K) := by
  subst hq
  intro z hz H locs ls hl hI
  have hao := zI_ao hI
  obtain ⟨hPl, hPm, hS⟩ := hI
  obtain ⟨hVc, hVm, hKl, hKm, hT, hcA, hmA, haA, hac, ham, hcm, hSS, hno, hX, hb, hRc, hRs⟩ := Z
  obtain ⟨p, hp, hz⟩ := Option.bind_eq_some_iff.mp hz
  have hVl : ZVok (zlV P ao cJ) := ⟨fun τ => zl_D hVc hac τ, hVc.2.1, hVc.2.2⟩
  have hA1 : ∀ q, zA (zlV P ao cJ) H.size q → E.2.2.2.2.1.heap.size ≤ q := fun q h => by
    rcases h with (h | h) | h
    · exact hcA q h
    · rw [h]; exact haA
    · exact Nat.le_trans hS.1 h
  refine va_calli (A0 := fun q => E.2.2.2.2.1.heap.size ≤ q) (H0 := E.2.2.2.2.1.heap) (zt_runSW (As := As) (rest := rest) ⟨zy_x X, zy_c X, zy_m X, zy_o X, zy_t X⟩ (hM H.size hao p hp) h1 h2 h3 h4 hy ⟨Nat.le_trans hfr (zy_f X), Nat.le_trans hlo (zy_w X)⟩ rfl rfl
    ⟨zPt_blind hVl σ.1 _ _, fun U hU hW => ⟨rfl, by rw [hU], by rw [hU]; exact hPl, va_K.moved hW.alike hKl, ?_, zw_N.warm hW (zy_n X), zt_S.moved hW (fun a h => by rw [hU]; exact hS.2.1 a h (Nat.not_le.mpr h)) hSS⟩⟩ rfl hl.1 hst (lv_room hr) d ⟨by omega, by omega⟩) hS (fun q _ h => hA1 q h) hA1 (fun r u t H1 locs1 ht hvm hp2 hB hz1 hk1 hS1 => ?_)
  · refine hVc.2.2 (fun q => E.2.2.2.2.1.heap.size ≤ q) _ U _ (fun q h => ?_) (hVc.2.1 _ E.2.2.2.2.1 U E.2.2.2.2.1.heap _ hW.alike (fun q h1 h2 => by rw [hU]; exact hS.2.1 q h1 h2) hT)
    rcases h with h | h
    · exact hcA q h
    · rw [h]; exact haA
  · obtain ⟨rfl, rfl⟩ := hp2
    refine kk (g p) z hz H1 locs1 ls hl ⟨by rw [← ht]; exact hB, hPm.kept (fun k q hk => hk1 q.1 (hPm k q hk).lt (fun h => ?_)), hS1⟩
    have hm := (hVm.1 σ.2).2 k q hk
    rcases h with (h | h) | h
    · exact hcm _ h hm
    · rw [h] at hm; exact ham hm
    · exact Nat.not_lt.mpr h (hPm k q hk).lt
end ZQR
