/-! The contract of a method that may throw; the test of a word's place, which reads and writes nothing. -/
def zPt (V : ZV) (σ : ZS) (sz : Nat) (av : List Value) : Array Value → State → Prop := va_Pc av (fun U => U.heap.size = sz ∧ va_P V.2.1 V.2.2.1 (V.1 σ) U.heap ∧ va_K V.2.1 V.2.2.1 V.2.2.2.1 U ∧ V.2.2.2.2.2 V.2.2.2.2.1 U U.heap ∧ zw_N U ∧ zt_S U)
def zMt (l : Launch) (y : MethodName) (cc : ByteArray) (nL : Nat) (ret : Option FieldType) (fr lo : Nat) (V : ZV) (σ : ZS) (sz : Nat) (av : List Value) (z : Option Int32 × ZS) : Prop :=
  MetFree l y (headSpec (Cond.code y cc nL ret :: zw_w) ({ frames := fr, cells := 1, slots := 6, locals := lo })) (zPt V σ sz av) (fun _ _ _ _ _ => True) (zQt V (zA V sz) z)
theorem zMt_of {l : Launch} {y : MethodName} {own : String} {cc : ByteArray} {nL fr lo sz : Nat} {ret : Option FieldType} {V : ZV} {σ : ZS} {L : List (Nat × Value)} {av : List Value} {r : Option (Option Int32 × ZS)} (hy : plainName y.cls = true) (ho : y.cls = own) (hL : lv_args 0 av = L) (hlen : (lg_sl av).length ≤ nL) (hV : ZVok V)
    (hg : ∀ U : State, V.2.2.2.2.2 V.2.2.2.2.1 U U.heap → V.2.2.2.2.2 (zA V U.heap.size) U U.heap) (hno : l.stackTraces = false)
    (j : ∀ E : ZE, ZX E V (zA V sz) own cc nL ret fr lo → ZY E V (zA V sz) σ → ZK E nL (zFt E V (zA V sz)) 0 L [] r) {z : Option Int32 × ZS} (h : r = some z) : zMt l y cc nL ret fr lo V σ sz av z := by
  refine MetFree.of_bodyS (code := cc) (maxLocals := nL) (ret := ret) hy ?_ ?_
  · intro args s m h1 hn
    obtain ⟨meth, c, h1, h2, h3, h4, h5, h6, -, -⟩ := Cond.code_spec hn (atoms_spec (ws := Cond.code y cc nL ret :: zw_w) h1 _ List.mem_cons_self)
    exact ⟨meth, c, h1, h2, h3, h4, h5, h6⟩
  · intro p e s m args below meth c s₁ B hml hv _
    obtain ⟨rfl, hsz, hP, hK, hT, hN, hSS⟩ := hv
    have hts := atoms_spec (ws := Cond.code y cc nL ret :: zw_w) B.pre
    have hown : s.vm.findClass own = some m.cls := by rw [← ho]; exact findClass_of_methodNamed B.named
    have hex := B.noHandlers (hts _ List.mem_cons_self)
    have hl := lv_entry av (n := nL) hlen
    have hh0 : s₁.heap = s.heap := by rw [B.state]; rfl
    rw [lg_entry_eq]
    generalize (lg_sl av ++ List.replicate (nL - (lg_sl av).length) Slot.unset).toArray = ls at hl ⊢
    rw [hL] at hl
    subst hsz
    obtain ⟨t, a1, o, b1, b2, b3⟩ := j (p, l, e, (headSpec (Cond.code y cc nL ret :: zw_w) ({ frames := fr, cells := 1, slots := 6, locals := lo })).room, s, m, av.toArray, below, meth, c) ⟨B.exec, B.bytes, hml, hown, fun w hw => hts w (List.mem_cons_of_mem _ hw), hK, B.returns, B.notSynchronized, hV, fun _ h => Or.inl h, hg s hT, Nat.le_refl _, Nat.le_refl _, hN⟩ ⟨fun q h => Or.inr h, Nat.le_refl _, Nat.le_refl _, hSS, hno, hP, hex⟩ z h ls hl s₁ hh0 (Stand.of_body B)
    exact ⟨t, o, a1, b1, b2, b3⟩
theorem va_Z_grow {C n d : String} {v : Value} {A : Nat → Prop} {U : State} {H : Heap} (h : va_Z C n d v A U H) : va_Z C n d v (fun q => A q ∨ H.size ≤ q) U H := by
  obtain ⟨cf, kf, fi, f, a, cell, h1, h2, h3, h4, h5, h6, h7, h8⟩ := h
  exact ⟨cf, kf, fi, f, a, cell, h1, h2, h3, h4, h5, h6, h7, fun z => z.elim h8 (fun z => Nat.not_lt.mpr z (Array.getElem?_eq_some_iff.mp h5).1)⟩
theorem va_T_grow {ty : FieldType} {t N : Nat} {f : Nat → Value} {A : Nat → Prop} {U : State} {H : Heap} (h : va_T ty t N f A U H) : va_T ty t N f (fun q => A q ∨ H.size ≤ q) U H := by
  obtain ⟨cell, h1, h2, h3, h4, h5, h6, h7⟩ := h
  exact ⟨cell, h1, h2, h3, h4, h5, h6, fun z => z.elim h7 (fun z => Nat.not_lt.mpr z (Array.getElem?_eq_some_iff.mp h1).1)⟩
theorem zc_T_grow {P : ZP} (U : State) (h : (zcV P).2.2.2.2.2 (zcV P).2.2.2.2.1 U U.heap) : (zcV P).2.2.2.2.2 (zA (zcV P) U.heap.size) U U.heap := by
  obtain ⟨h1, h2, h3, h4⟩ := h
  exact ⟨va_Z_grow h1, va_T_grow h2, va_Z_grow h3, va_T_grow h4⟩
/-- the empty world -/
def z0V : ZV := (fun _ => [], (fun _ => 0, fun _ _ => 0), [], [], fun _ => False, fun _ _ _ => True)
theorem z0V_ok : ZVok z0V := ⟨fun σ => ⟨fun i j p q h => (by cases h), fun k q h => (by cases h)⟩, fun _ _ _ _ _ _ _ h => h, fun _ _ _ _ _ h => h⟩
theorem j0_F_isNoWordOfMemory_17 {V : ZV} {E : ZE} {A : Nat → Prop} (X : ZX E V A "FrameMachine" b_F_isNoWordOfMemory 1 (some .boolean) 0 0) (s0 : ZS)  : ZJ E V A 1 (zFi E V A) 17 [] [] s0 (f_F_isNoWordOfMemory_17 s0) := by
  unfold f_F_isNoWordOfMemory_17
  refine zj_iconst 18 1 X kd_F_isNoWordOfMemory_17 ki_1 rfl ?_
  refine zj_goto 22 X kd_F_isNoWordOfMemory_18 rfl ?_
  exact zj_zret X kd_F_isNoWordOfMemory_22 (Or.inr rfl)
theorem j0_F_isNoWordOfMemory {V : ZV} {E : ZE} {A : Nat → Prop} (X : ZX E V A "FrameMachine" b_F_isNoWordOfMemory 1 (some .boolean) 0 0) (s0 : ZS) (x1 : Int32) : ZJ E V A 1 (zFi E V A) 0 [(0, .int x1)] [] s0 (f_F_isNoWordOfMemory s0 x1) := by
  unfold f_F_isNoWordOfMemory
  refine zj_iload_n 1 0 X kd_F_isNoWordOfMemory_0 rfl rfl rfl ?_
  refine zj_iconst 2 1 X kd_F_isNoWordOfMemory_1 ki_1 rfl ?_
  refine zj_iand 3 X kd_F_isNoWordOfMemory_2 rfl ?_
  refine zj_if_ne 17 6 X kd_F_isNoWordOfMemory_3 rfl rfl (fun _ => ?_) (fun _ => ?_)
  · refine zj_iload_n 7 0 X kd_F_isNoWordOfMemory_6 rfl rfl rfl ?_
    refine zj_if_lt 17 10 X kd_F_isNoWordOfMemory_7 rfl rfl (fun _ => ?_) (fun _ => ?_)
    · refine zj_loc [] (L2 := []) rfl ?_
      exact j0_F_isNoWordOfMemory_17 X s0
    · refine zj_iload_n 11 0 X kd_F_isNoWordOfMemory_10 rfl rfl rfl ?_
      refine zj_sipush 14 1022 X kd_F_isNoWordOfMemory_11 ks_1022 rfl ?_
      refine zj_icmp_le 21 17 X kd_F_isNoWordOfMemory_14 rfl rfl (fun _ => ?_) (fun _ => ?_)
      · refine zj_iconst 22 0 X kd_F_isNoWordOfMemory_21 ki_0 rfl ?_
        exact zj_zret X kd_F_isNoWordOfMemory_22 (Or.inl rfl)
      · refine zj_loc [] (L2 := []) rfl ?_
        exact j0_F_isNoWordOfMemory_17 X s0
  · refine zj_loc [] (L2 := []) rfl ?_
    exact j0_F_isNoWordOfMemory_17 X s0
theorem c0_F_isNoWordOfMemory {l : Launch} (s0 : ZS) (x1 : Int32) {z : Int32 × ZS} (h : f_F_isNoWordOfMemory s0 x1 = some z) : zMi l y_F_isNoWordOfMemory b_F_isNoWordOfMemory 1 (some .boolean) 0 0 z0V s0 [.int x1] z :=
  zMi_of (by decide +kernel) rfl rfl (Nat.le_of_ble_eq_true rfl) z0V_ok (fun _ X => j0_F_isNoWordOfMemory X s0 x1) h
theorem f0_F_isNoWordOfMemory {s : ZS} {x : Int32} {p : Int32 × ZS} (h : f_F_isNoWordOfMemory s x = some p) : p.2 = s := by
  unfold f_F_isNoWordOfMemory f_F_isNoWordOfMemory_17 at h
  repeat' split at h
  all_goals (cases h; rfl)
theorem z0_pre {s U : State} {σ : ZS} {av : List Value} (hW : s.WarmedH U.vm) (hN : zw_N s) : zPc z0V σ av av.toArray U :=
  ⟨rfl, fun k q h => (by cases h), ⟨fun c q h => (by cases h), fun k q h => (by cases h)⟩, trivial, zw_N.warm hW hN⟩
section ZKC
variable {E : ZE} {V : ZV} {A : Nat → Prop} {cc : ByteArray} {nL : Nat} {ret : Option FieldType} {fr lo : Nat} {pc : Nat} {L : List (Nat × Value)} {rest : List Value} {σ : ZS} {x : Int32} {F : Option Int32 × ZS → State → Prop} {K : Int32 × ZS → Option (Option Int32 × ZS)}
theorem zk_fix {p : Program} {l : Launch} {e : Env} {R : Room} {s : State} {m : MethodId} {args : Array Value} {below : List Frame} {meth : Method} {c : Code} {H : Heap} {locs : List Loc} {Q : State → Prop} {g : JFrame} (hS : va_S (fun _ => False) s.heap H locs) (k : W p l e R s m args below meth c s.heap [] 0 0 Q g) : W p l e R s m args below meth c H locs 0 0 Q g := by
  intro T hT X
  have h1 : T.heap.size ≤ s.heap.size := X.heapSize
  have h2 : T.heap = s.heap := by
    rw [hT] at h1 ⊢
    have h3 : H.size = s.heap.size := Nat.le_antisymm h1 hS.1
    refine Array.ext_getElem? fun i => ?_
    by_cases hi : i < s.heap.size
    · exact hS.2.1 i hi (fun z => z)
    · rw [Array.getElem?_eq_none (by omega), Array.getElem?_eq_none (by omega)]
  have h4 : locs = [] := by
    cases locs with
    | nil => rfl
    | cons a r => exact (hS.2.2 a List.mem_cons_self).elim
  subst h4
  exact k T h2 X
theorem zk_noWord (q : Nat) (X : ZX E V A "FrameMachine" cc nL ret fr lo) (d : decode cc pc = .ok (.invokestatic 55, 3)) (hfr : 0 + 1 ≤ fr) (hlo : 8 + (1 + 11) + 0 ≤ lo) (hr : (rest.map fun v => v.category).sum ≤ 8) (hq : pc + 3 = q) (k : ∀ p : Int32 × ZS, p.2 = σ → ZK E nL F q L (.int p.1 :: rest) (K p)) : ZK E nL F pc L (.int x :: rest) ((f_F_isNoWordOfMemory σ x).bind K) := by
  subst hq
  intro z hz ls hl
  obtain ⟨p, hp, hz⟩ := Option.bind_eq_some_iff.mp hz
  refine va_calli (A0 := fun _ => False) (H0 := E.2.2.2.2.1.heap) (va_runS (As := [.int x]) (rest := rest) ⟨zx_x X, zx_c X, zx_m X, zx_o X, zx_t X⟩ (c0_F_isNoWordOfMemory σ x hp) (va_cwS 1 (zx_t X) (zg_S kc_F_55) rfl rfl rfl kc_F_55.2 ⟨Nat.le_trans hfr (zx_f X), Nat.le_trans hlo (zx_w X)⟩) ⟨zPc_blind z0V_ok σ _, fun U hU hW => (z0_pre hW (zx_n X))⟩ rfl rfl hl.1 rfl (lv_room hr) d ⟨Nat.zero_le _, Nat.zero_le _⟩) va_S.rf (fun q _ h => h) (fun q h => h) (fun r u t H1 locs1 ht hvm hp2 hB hz1 hk1 hS1 => ?_)
  obtain ⟨rfl, rfl⟩ := hp2
  exact zk_fix hS1 (k p (f0_F_isNoWordOfMemory hp) z hz ls hl)
end ZKC
