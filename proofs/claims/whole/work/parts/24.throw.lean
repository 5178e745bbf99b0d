theorem kw_15 : (Jvm.Cond.initialized "java/lang/IllegalArgumentException") ∈ lw_tbl := zk_1 (List.mem_of_getElem? (i := 15) rfl)
theorem kw_365 : (Jvm.Cond.classLink "FrameMachine" (60 : Nat) "java/lang/IllegalArgumentException") ∈ lw_tbl := zk_2 (List.mem_of_getElem? (i := 125) rfl)
theorem kw_366 : (Jvm.Cond.instantiable "java/lang/IllegalArgumentException" (6 : Nat)) ∈ lw_tbl := zk_2 (List.mem_of_getElem? (i := 126) rfl)
/-! Throws: what they need beside the tables' words; a judgement for the steps ahead of a throw (nothing written yet); the throw; contracts that end either way. -/
abbrev zt_at : List Cond := Bundle.ownAtoms "FrameMachine" 64 "java/lang/IllegalArgumentException" ["java/lang/RuntimeException", "java/lang/Exception"]
def zt_dw : List Cond := [.declares ⟨"java/lang/RuntimeException", "<init>", "(Ljava/lang/String;)V"⟩, .declares ⟨"java/lang/Exception", "<init>", "(Ljava/lang/String;)V"⟩, .declares ⟨"java/lang/Throwable", "<init>", "(Ljava/lang/String;)V"⟩, .castable "java/lang/IllegalArgumentException" "java/lang/IllegalArgumentException"]
def zt_sw : List Cond := [.laysStatic "java/lang/Throwable" "UNASSIGNED_STACK" "[Ljava/lang/StackTraceElement;", .laysStatic "java/lang/Throwable" "SUPPRESSED_SENTINEL" "Ljava/util/List;", .isRef (.static "java/lang/Throwable" "UNASSIGNED_STACK" "[Ljava/lang/StackTraceElement;"), .isRef (.static "java/lang/Throwable" "SUPPRESSED_SENTINEL" "Ljava/util/List;")]
theorem zt_in : ∀ w ∈ zt_at, w ∈ zw_w ∨ w ∈ zt_dw ∨ w ∈ zt_sw := by decide +kernel
def zt_L (n d : String) (U : State) : Prop := ∃ (c : ClassId) (k : Class) (i : Nat) (f : Field) (a : Nat) (cell : Cell) (v : Value), U.vm.findClass "java/lang/Throwable" = some c ∧ U.fieldFound? "java/lang/Throwable" n d = some (c, k, i, f) ∧ f.isStatic = true ∧ k.statics = some a ∧ U.heap[a]? = some cell ∧ cell.vm.isStatics = true ∧ cell.cls = c ∧ f.slot < cell.slots.size ∧ k.staticTypes[f.slot]? = some f.type ∧ cell.slots[f.slot]? = some v ∧ v.isRef = true
theorem zt_L.of {n d : String} {U : State} {args : Array Value} (h1 : (Cond.laysStatic "java/lang/Throwable" n d).before args U = true) (h2 : (Cond.isRef (.static "java/lang/Throwable" n d)).before args U = true) : zt_L n d U := by
  obtain ⟨c, k, i, f, a, cell, hc, hi, hst, ha, hcell, hs, hcls, hlt, hty⟩ := Cond.laysStatic_spec h1
  obtain ⟨v, hv, hr⟩ := Cond.isRef_spec (args := args) (first := U) (o := none) (s := U) (idx := []) h2
  obtain ⟨hst', a', cell', ha', hcell', -, hslot⟩ := Term.static_spec hi hv
  cases ha.symm.trans ha'
  cases hcell.symm.trans hcell'
  exact ⟨c, k, i, f, a, cell, v, hc, hi, hst, ha, hcell, hs, hcls, hlt, hty, hslot, hr⟩
theorem zt_L.lays {n d : String} {U : State} (h : zt_L n d U) (args : Array Value) : (Cond.laysStatic "java/lang/Throwable" n d).before args U = true := by
  obtain ⟨c, k, i, f, a, cell, v, hc, hi, hst, ha, hcell, hs, hcls, hlt, hty, hslot, hr⟩ := h
  exact Cond.laysStatic_of hc hi hst ha hcell hs hcls hlt hty
theorem zt_L.isRef {n d : String} {U : State} (h : zt_L n d U) (args : Array Value) : (Cond.isRef (.static "java/lang/Throwable" n d)).before args U = true := by
  obtain ⟨c, k, i, f, a, cell, v, hc, hi, hst, ha, hcell, hs, hcls, hlt, hty, hslot, hr⟩ := h
  have he : (Term.static "java/lang/Throwable" n d).eval args U none [] U = some v := by
    simp [Term.eval, State.fieldNamed?, hi, hst, ha, hcell, hs, hslot]
  simp only [Cond.before, Cond.holds, Cond.value, he]
  cases v <;> simp_all [Value.isRef]
theorem zt_L.moved {n d : String} {s U : State} (hvm : s.vm.Alike U.vm) (hq : ∀ a : Nat, a < s.heap.size → U.heap[a]? = s.heap[a]?) (h : zt_L n d s) : zt_L n d U := by
  obtain ⟨c, k, i, f, a, cell, v, hc, hi, hst, ha, hcell, hs, hcls, hlt, hty, hslot, hr⟩ := h
  obtain ⟨k', hi', hek⟩ := State.fieldFound?_setVm hvm hi
  exact ⟨c, k', i, f, a, cell, v, by rw [hvm.findClass]; exact hc, hi', hst, by rw [hek]; exact ha, by rw [hq a (Array.getElem?_eq_some_iff.mp hcell).1]; exact hcell, hs, hcls, hlt, by rw [hek]; exact hty, hslot, hr⟩
def zt_S (U : State) : Prop := (∀ w ∈ zt_dw, va_Nw w U) ∧ zt_L "UNASSIGNED_STACK" "[Ljava/lang/StackTraceElement;" U ∧ zt_L "SUPPRESSED_SENTINEL" "Ljava/util/List;" U ∧
  (∃ a, vk_R "FrameMachine" 62 "no word of memory, or no word" a U) ∧ (∃ a, vk_R "FrameMachine" 71 "no word of memory" a U) ∧ (∃ a, vk_R "FrameMachine" 77 "no register" a U) ∧ (∃ a, vk_R "FrameMachine" 91 "steps are 1 to 8" a U) ∧ ∃ a, vk_R "FrameMachine" 97 "no byte" a U
theorem zt_S.moved {s U : State} (hW : s.WarmedH U.vm) (hq : ∀ a : Nat, a < s.heap.size → U.heap[a]? = s.heap[a]?) (h : zt_S s) : zt_S U := by
  obtain ⟨h1, h2, h3, ⟨a1, g1⟩, ⟨a2, g2⟩, ⟨a3, g3⟩, ⟨a4, g4⟩, ⟨a5, g5⟩⟩ := h
  refine ⟨fun w hw => ?_, zt_L.moved hW.alike hq h2, zt_L.moved hW.alike hq h3, ⟨a1, g1.warm hW⟩, ⟨a2, g2.warm hW⟩, ⟨a3, g3.warm hW⟩, ⟨a4, g4.warm hW⟩, ⟨a5, g5.warm hW⟩⟩
  have h4 := h1 w hw
  simp only [zt_dw, List.mem_cons, List.not_mem_nil, or_false] at hw
  rcases hw with rfl | rfl | rfl | rfl
  · exact va_Nw.warmD hW h4
  · exact va_Nw.warmD hW h4
  · exact va_Nw.warmD hW h4
  · exact va_Nw.warmC hW h4
theorem zt_atoms {s : State} {args : Array Value} (ht : ∀ w ∈ zw_w, w.before args s = true) (hS : zt_S s) : ∀ w ∈ zt_at, w.before args s = true := by
  intro w hw
  rcases zt_in w hw with h | h | h
  · exact ht w h
  · refine va_Nw.use ?_ (hS.1 w h)
    simp only [zt_dw, List.mem_cons, List.not_mem_nil, or_false] at h
    rcases h with rfl | rfl | rfl | rfl <;> rfl
  · simp only [zt_sw, List.mem_cons, List.not_mem_nil, or_false] at h
    rcases h with rfl | rfl | rfl | rfl
    · exact hS.2.1.lays args
    · exact hS.2.2.1.lays args
    · exact hS.2.1.isRef args
    · exact hS.2.2.1.isRef args
/-- ends: an answer, or a throw of a fresh object -/
def zA (V : ZV) (sz : Nat) : Nat → Prop := fun q => V.2.2.2.2.1 q ∨ sz ≤ q
def zQt (V : ZV) (A : Nat → Prop) (z : Option Int32 × ZS) : Array Value → State → Outcome → State → Prop := fun _ st oc t =>
  ((∃ v, z.1 = some v ∧ oc = .returned (some (.int v))) ∨ (z.1 = none ∧ ∃ (a : Nat) (ce : Cell), oc = .threw a ∧ st.heap.size ≤ a ∧ t.heap[a]? = some ce ∧ ce.vm = .none ∧ st.vm.findClass "java/lang/IllegalArgumentException" = some ce.cls ∧ st.vm.assignable ce.cls ce.cls = true)) ∧
  va_P V.2.1 V.2.2.1 (V.1 z.2) t.heap ∧ va_F A st t ∧ st.WarmedH t.vm ∧ ∃ L, st.sameButNew ({ t with vm := st.vm } : State) L 1 6 ∧ ∀ q ∈ L, A q.base
def zFt (E : ZE) (V : ZV) (A : Nat → Prop) (z : Option Int32 × ZS) : State → Prop := fun t => ∃ o, t.status = .running ∧ Ended t E.2.2.2.2.2.2.2.1 o ∧ zQt V A z E.2.2.2.2.2.2.1 E.2.2.2.2.1 o t
theorem zW_mono {p : Program} {l : Launch} {e : Env} {R : Room} {s : State} {m : MethodId} {args : Array Value} {below : List Frame} {meth : Method} {c : Code} {H : Heap} {locs : List Loc} {cells slots : Nat} {Q Q' : State → Prop} {g : JFrame} (h : ∀ t, Q t → Q' t) (k : W p l e R s m args below meth c H locs cells slots Q g) : W p l e R s m args below meth c H locs cells slots Q' g := by
  intro T hT X
  obtain ⟨t, a, b⟩ := k T hT X
  exact ⟨t, a, h t b⟩
theorem zFt_of {E : ZE} {V : ZV} {A : Nat → Prop} {v : Int32} {σ : ZS} {t : State} (h : zFi E V A (v, σ) t) : zFt E V A (some v, σ) t := by
  obtain ⟨o, h1, h2, ⟨⟨r, u, h3, ⟨h4, h5⟩, h6⟩, h7⟩, L, ⟨-, h8, h9⟩, h10⟩ := h
  refine ⟨o, h1, h2, Or.inl ⟨v, rfl, by rw [h3, h4]⟩, ?_, h7, h8, L, h9.mono (by omega) (by omega), h10⟩
  rw [h5] at h6
  exact h6
section ZTR
variable {E : ZE} {V : ZV} {A : Nat → Prop} {own : String} {cc : ByteArray} {nL : Nat} {ret : Option FieldType} {fr lo : Nat} {pc : Nat} {L L2 : List (Nat × Value)} {st : List Value} {σ τ : ZS} {x y : Int32}
theorem zj_tiret (X : ZX E V A own cc nL (some .int) fr lo) (d : decode cc pc = .ok (.ireturn, 1)) : ZJ E V A nL (zFt E V A) pc L [.int x] σ (some (some x, σ)) := by
  intro z hz H locs ls hl hP hS
  cases hz
  exact zW_mono (fun t h => zFt_of h) (zj_iret X d (x, σ) rfl H locs ls hl hP hS)
theorem zj_tzret (X : ZX E V A own cc nL (some .boolean) fr lo) (d : decode cc pc = .ok (.ireturn, 1)) (h : x = 0 ∨ x = 1) : ZJ E V A nL (zFt E V A) pc L [.int x] σ (some (some x, σ)) := by
  intro z hz H locs ls hl hP hS
  cases hz
  exact zW_mono (fun t h => zFt_of h) (zj_zret X d h (x, σ) rfl H locs ls hl hP hS)
/-- what a throwing method's walk has beside ZX -/
def ZY (E : ZE) (V : ZV) (A : Nat → Prop) (σ : ZS) : Prop := (∀ q, E.2.2.2.2.1.heap.size ≤ q → A q) ∧ 1 ≤ E.2.2.2.1.cells ∧ 6 ≤ E.2.2.2.1.slots ∧ zt_S E.2.2.2.2.1 ∧ E.2.1.stackTraces = false ∧ va_P V.2.1 V.2.2.1 (V.1 σ) E.2.2.2.2.1.heap ∧ (E.2.2.2.2.2.2.2.2.2.exceptionTable.isEmpty = true)
/-- nothing has been written yet -/
def ZK (E : ZE) (nL : Nat) (F : Option Int32 × ZS → State → Prop) (pc : Nat) (L : List (Nat × Value)) (st : List Value) (r : Option (Option Int32 × ZS)) : Prop :=
  ∀ z, r = some z → ∀ ls : Array Slot, lv_has ls nL L →
    W E.1 E.2.1 E.2.2.1 E.2.2.2.1 E.2.2.2.2.1 E.2.2.2.2.2.1 E.2.2.2.2.2.2.1 E.2.2.2.2.2.2.2.1 E.2.2.2.2.2.2.2.2.1 E.2.2.2.2.2.2.2.2.2 E.2.2.2.2.1.heap [] 0 0 (F z) (F0 E.2.2.2.2.2.1 pc ls st)
variable {F : Option Int32 × ZS → State → Prop} {r r1 r2 : Option (Option Int32 × ZS)}
theorem zk_zj (h : τ = σ) (Y : ZY E V A σ) (k : ZJ E V A nL F pc L st τ r) : ZK E nL F pc L st r := by
  subst h
  exact fun z hz ls hl => k z hz _ [] ls hl Y.2.2.2.2.2.1 va_S.rf
theorem zk_loc (ks : List Nat) (hL : lv_pick L ks = L2) (k : ZK E nL F pc L2 st r) : ZK E nL F pc L st r :=
  fun z hz ls hl => k z hz ls (lv_sub hl ks hL)
theorem zk_iconst (q : Nat) {n : Int} (v : Int32) (X : ZX E V A own cc nL ret fr lo) (d : decode cc pc = .ok (.iconst n, 1)) (hv : Int32.ofInt n = v) (hq : pc + 1 = q) (k : ZK E nL F q L (.int v :: st) r) : ZK E nL F pc L st r := by
  subst hq
  exact fun z hz ls hl => lv_iconst (zx_x X) (zx_c X) d hv (k z hz ls hl)
theorem zk_bipush (q : Nat) {n : Int} (v : Int32) (X : ZX E V A own cc nL ret fr lo) (d : decode cc pc = .ok (.bipush n, 2)) (hv : (Int8.ofInt n).toInt32 = v) (hq : pc + 2 = q) (k : ZK E nL F q L (.int v :: st) r) : ZK E nL F pc L st r := by
  subst hq
  exact fun z hz ls hl => lv_bipush (zx_x X) (zx_c X) d hv (k z hz ls hl)
theorem zk_sipush (q : Nat) {n : Int} (v : Int32) (X : ZX E V A own cc nL ret fr lo) (d : decode cc pc = .ok (.sipush n, 3)) (hv : (Int16.ofInt n).toInt32 = v) (hq : pc + 3 = q) (k : ZK E nL F q L (.int v :: st) r) : ZK E nL F pc L st r := by
  subst hq
  exact fun z hz ls hl => lv_sipush (zx_x X) (zx_c X) d hv (k z hz ls hl)
theorem zk_ldc (q : Nat) {index : Nat} (v : Int32) (X : ZX E V A own cc nL ret fr lo) (d : decode cc pc = .ok (.ldc index, 2)) (hw : Cond.constant own index v ∈ lw_tbl) (hq : pc + 2 = q) (k : ZK E nL F q L (.int v :: st) r) : ZK E nL F pc L st r := by
  subst hq
  exact fun z hz ls hl => lv_ldc (zx_x X) (zx_c X) (zx_o X) (zx_g X hw rfl) d (k z hz ls hl)
theorem zk_iload_n (q : Nat) (p : Nat) {n : Fin 4} {i : Nat} {v : Int32} (X : ZX E V A own cc nL ret fr lo) (d : decode cc pc = .ok (.iload_n n, 1)) (hi : (n : Nat) = i) (hk : L[p]? = some (i, .int v)) (hq : pc + 1 = q) (k : ZK E nL F q L (.int v :: st) r) : ZK E nL F pc L st r := by
  subst hq
  exact fun z hz ls hl => lv_iload_n (zx_x X) (zx_c X) d hi (lv_at hl p hk) (k z hz ls hl)
theorem zk_if_eq (q q3 : Nat) {off : Int} {_ : Decidable (x = 0)} (X : ZX E V A own cc nL ret fr lo) (d : decode cc pc = .ok (.ifCond .eq off, 3)) (hq : (pc : Int) + off = (q : Int)) (h3 : pc + 3 = q3) (k1 : x = 0 → ZK E nL F q L st r1) (k2 : ¬ (x = 0) → ZK E nL F q3 L st r2) : ZK E nL F pc L (.int x :: st) (if x = 0 then r1 else r2) := by
  subst h3
  exact fun z hz ls hl => lv_if_eq (zx_x X) (zx_c X) d hq (fun h => k1 h z (by rw [← hz, if_pos h]) ls hl) (fun h => k2 h z (by rw [← hz, if_neg h]) ls hl)
theorem zk_if_ne (q q3 : Nat) {off : Int} {_ : Decidable (x = 0)} (X : ZX E V A own cc nL ret fr lo) (d : decode cc pc = .ok (.ifCond .ne off, 3)) (hq : (pc : Int) + off = (q : Int)) (h3 : pc + 3 = q3) (k1 : x = 0 → ZK E nL F q3 L st r1) (k2 : ¬ (x = 0) → ZK E nL F q L st r2) : ZK E nL F pc L (.int x :: st) (if x = 0 then r1 else r2) := by
  subst h3
  exact fun z hz ls hl => lv_if_ne (zx_x X) (zx_c X) d hq (fun h => k2 h z (by rw [← hz, if_neg h]) ls hl) (fun h => k1 h z (by rw [← hz, if_pos h]) ls hl)
theorem zk_if_lt (q q3 : Nat) {off : Int} {_ : Decidable (x < 0)} (X : ZX E V A own cc nL ret fr lo) (d : decode cc pc = .ok (.ifCond .lt off, 3)) (hq : (pc : Int) + off = (q : Int)) (h3 : pc + 3 = q3) (k1 : x < 0 → ZK E nL F q L st r1) (k2 : ¬ (x < 0) → ZK E nL F q3 L st r2) : ZK E nL F pc L (.int x :: st) (if x < 0 then r1 else r2) := by
  subst h3
  exact fun z hz ls hl => lv_if_lt (zx_x X) (zx_c X) d hq (fun h => k1 h z (by rw [← hz, if_pos h]) ls hl) (fun h => k2 h z (by rw [← hz, if_neg h]) ls hl)
theorem zk_if_ge (q q3 : Nat) {off : Int} {_ : Decidable (0 ≤ x)} (X : ZX E V A own cc nL ret fr lo) (d : decode cc pc = .ok (.ifCond .ge off, 3)) (hq : (pc : Int) + off = (q : Int)) (h3 : pc + 3 = q3) (k1 : 0 ≤ x → ZK E nL F q L st r1) (k2 : ¬ (0 ≤ x) → ZK E nL F q3 L st r2) : ZK E nL F pc L (.int x :: st) (if 0 ≤ x then r1 else r2) := by
  subst h3
  exact fun z hz ls hl => lv_if_ge (zx_x X) (zx_c X) d hq (fun h => k1 h z (by rw [← hz, if_pos h]) ls hl) (fun h => k2 h z (by rw [← hz, if_neg h]) ls hl)
theorem zk_if_gt (q q3 : Nat) {off : Int} {_ : Decidable (0 < x)} (X : ZX E V A own cc nL ret fr lo) (d : decode cc pc = .ok (.ifCond .gt off, 3)) (hq : (pc : Int) + off = (q : Int)) (h3 : pc + 3 = q3) (k1 : 0 < x → ZK E nL F q L st r1) (k2 : ¬ (0 < x) → ZK E nL F q3 L st r2) : ZK E nL F pc L (.int x :: st) (if 0 < x then r1 else r2) := by
  subst h3
  exact fun z hz ls hl => lv_if_gt (zx_x X) (zx_c X) d hq (fun h => k1 h z (by rw [← hz, if_pos h]) ls hl) (fun h => k2 h z (by rw [← hz, if_neg h]) ls hl)
theorem zk_if_le (q q3 : Nat) {off : Int} {_ : Decidable (x ≤ 0)} (X : ZX E V A own cc nL ret fr lo) (d : decode cc pc = .ok (.ifCond .le off, 3)) (hq : (pc : Int) + off = (q : Int)) (h3 : pc + 3 = q3) (k1 : x ≤ 0 → ZK E nL F q L st r1) (k2 : ¬ (x ≤ 0) → ZK E nL F q3 L st r2) : ZK E nL F pc L (.int x :: st) (if x ≤ 0 then r1 else r2) := by
  subst h3
  exact fun z hz ls hl => lv_if_le (zx_x X) (zx_c X) d hq (fun h => k1 h z (by rw [← hz, if_pos h]) ls hl) (fun h => k2 h z (by rw [← hz, if_neg h]) ls hl)
theorem zk_icmp_eq (q q3 : Nat) {off : Int} {_ : Decidable (x = y)} (X : ZX E V A own cc nL ret fr lo) (d : decode cc pc = .ok (.if_icmp .eq off, 3)) (hq : (pc : Int) + off = (q : Int)) (h3 : pc + 3 = q3) (k1 : x = y → ZK E nL F q L st r1) (k2 : ¬ (x = y) → ZK E nL F q3 L st r2) : ZK E nL F pc L (.int y :: .int x :: st) (if x = y then r1 else r2) := by
  subst h3
  exact fun z hz ls hl => lv_icmp_eq (zx_x X) (zx_c X) d hq (fun h => k1 h z (by rw [← hz, if_pos h]) ls hl) (fun h => k2 h z (by rw [← hz, if_neg h]) ls hl)
theorem zk_icmp_ne (q q3 : Nat) {off : Int} {_ : Decidable (x = y)} (X : ZX E V A own cc nL ret fr lo) (d : decode cc pc = .ok (.if_icmp .ne off, 3)) (hq : (pc : Int) + off = (q : Int)) (h3 : pc + 3 = q3) (k1 : x = y → ZK E nL F q3 L st r1) (k2 : ¬ (x = y) → ZK E nL F q L st r2) : ZK E nL F pc L (.int y :: .int x :: st) (if x = y then r1 else r2) := by
  subst h3
  exact fun z hz ls hl => lv_icmp_ne (zx_x X) (zx_c X) d hq (fun h => k2 h z (by rw [← hz, if_neg h]) ls hl) (fun h => k1 h z (by rw [← hz, if_pos h]) ls hl)
theorem zk_icmp_lt (q q3 : Nat) {off : Int} {_ : Decidable (x < y)} (X : ZX E V A own cc nL ret fr lo) (d : decode cc pc = .ok (.if_icmp .lt off, 3)) (hq : (pc : Int) + off = (q : Int)) (h3 : pc + 3 = q3) (k1 : x < y → ZK E nL F q L st r1) (k2 : ¬ (x < y) → ZK E nL F q3 L st r2) : ZK E nL F pc L (.int y :: .int x :: st) (if x < y then r1 else r2) := by
  subst h3
  exact fun z hz ls hl => lv_icmp_lt (zx_x X) (zx_c X) d hq (fun h => k1 h z (by rw [← hz, if_pos h]) ls hl) (fun h => k2 h z (by rw [← hz, if_neg h]) ls hl)
theorem zk_icmp_ge (q q3 : Nat) {off : Int} {_ : Decidable (y ≤ x)} (X : ZX E V A own cc nL ret fr lo) (d : decode cc pc = .ok (.if_icmp .ge off, 3)) (hq : (pc : Int) + off = (q : Int)) (h3 : pc + 3 = q3) (k1 : y ≤ x → ZK E nL F q L st r1) (k2 : ¬ (y ≤ x) → ZK E nL F q3 L st r2) : ZK E nL F pc L (.int y :: .int x :: st) (if y ≤ x then r1 else r2) := by
  subst h3
  exact fun z hz ls hl => lv_icmp_ge (zx_x X) (zx_c X) d hq (fun h => k1 h z (by rw [← hz, if_pos h]) ls hl) (fun h => k2 h z (by rw [← hz, if_neg h]) ls hl)
theorem zk_icmp_gt (q q3 : Nat) {off : Int} {_ : Decidable (y < x)} (X : ZX E V A own cc nL ret fr lo) (d : decode cc pc = .ok (.if_icmp .gt off, 3)) (hq : (pc : Int) + off = (q : Int)) (h3 : pc + 3 = q3) (k1 : y < x → ZK E nL F q L st r1) (k2 : ¬ (y < x) → ZK E nL F q3 L st r2) : ZK E nL F pc L (.int y :: .int x :: st) (if y < x then r1 else r2) := by
  subst h3
  exact fun z hz ls hl => lv_icmp_gt (zx_x X) (zx_c X) d hq (fun h => k1 h z (by rw [← hz, if_pos h]) ls hl) (fun h => k2 h z (by rw [← hz, if_neg h]) ls hl)
theorem zk_icmp_le (q q3 : Nat) {off : Int} {_ : Decidable (x ≤ y)} (X : ZX E V A own cc nL ret fr lo) (d : decode cc pc = .ok (.if_icmp .le off, 3)) (hq : (pc : Int) + off = (q : Int)) (h3 : pc + 3 = q3) (k1 : x ≤ y → ZK E nL F q L st r1) (k2 : ¬ (x ≤ y) → ZK E nL F q3 L st r2) : ZK E nL F pc L (.int y :: .int x :: st) (if x ≤ y then r1 else r2) := by
  subst h3
  exact fun z hz ls hl => lv_icmp_le (zx_x X) (zx_c X) d hq (fun h => k1 h z (by rw [← hz, if_pos h]) ls hl) (fun h => k2 h z (by rw [← hz, if_neg h]) ls hl)
/-- the throw itself: new, dup, ldc, invokespecial, athrow -/
theorem zk_throw {tx : String} {ib : Nat} (h : τ = σ) (X : ZX E V A "FrameMachine" cc nL ret fr lo) (Y : ZY E V A σ) (hfr : 6 ≤ fr) (hlo : 90 ≤ lo) (hs : zt_S E.2.2.2.2.1 → ∃ a, vk_R "FrameMachine" ib tx a E.2.2.2.2.1)
    (d0 : decode cc pc = .ok (.new 60, 3)) (d3 : decode cc (pc + 3) = .ok (.dup, 1)) (d4 : decode cc (pc + 3 + 1) = .ok (.ldc ib, 2)) (d6 : decode cc (pc + 3 + 1 + 2) = .ok (.invokespecial 64, 3)) (d9 : decode cc (pc + 3 + 1 + 2 + 3) = .ok (.athrow, 1)) : ZK E nL (zFt E V A) pc L [] (some (none, τ)) := by
  intro z hz ls hl
  cases hz
  subst h
  obtain ⟨hA, hRc, hRs, hSS, hno, hP, hex⟩ := Y
  obtain ⟨sa, hstr⟩ := hs hSS
  refine W.newc (C := "java/lang/IllegalArgumentException") (index := 60) (n := 6) (zx_x X) (zx_c X) (zx_o X) (zx_g X kw_365 rfl) (zx_g X kw_366 rfl) (zx_g X kw_15 rfl) rfl d0 (by omega) (by omega) (fun cC kC hf hk hord hn => ?_)
  refine W.eq (g2 := F0 E.2.2.2.2.2.1 (pc + 3) ls [.ref E.2.2.2.2.1.heap.size]) rfl ?_
  refine lv_dup (zx_x X) (zx_c X) d3 rfl ?_
  refine va_ldcS (zx_x X) (zx_c X) (zx_o X) hstr d4 ?_
  intro T hT X1
  have hc := zx_c X
  have hR1 := zx_f X
  have hR2 := zx_w X
  have htr : E.2.2.1.platform.stackTraces = false := by rw [X1.admits.platform]; exact hno
  have hsz : (F0 E.2.2.2.2.2.1 (pc + 3 + 1 + 2) ls [.ref sa, .ref E.2.2.2.2.1.heap.size, .ref E.2.2.2.2.1.heap.size]).locals.size = E.2.2.2.2.2.2.2.2.2.maxLocals := hl.1.trans (zx_m X).symm
  obtain ⟨U, hst, hrun, hend, hWU, hsame, ce, hce, hcell⟩ := X1.ctorThrowS (zx_x X) htr (own := "FrameMachine") (cls := "java/lang/IllegalArgumentException") (names := ["java/lang/RuntimeException", "java/lang/Exception"]) (ic := 64) (zx_o X) (by decide +kernel) (by decide +kernel) (zt_atoms (zx_t X) hSS)
    (fun x hx => by cases hx) (a := E.2.2.2.2.1.heap.size) hf hk (by rw [hT]; simp) (Nat.le_refl _) (msg := .ref sa) rfl (g := F0 E.2.2.2.2.2.1 (pc + 3 + 1 + 2) ls [.ref sa, .ref E.2.2.2.2.1.heap.size, .ref E.2.2.2.2.1.heap.size]) rfl hsz rfl rfl (rest := []) rfl (by rw [hc]; exact d6) (by rw [hc]; exact d9)
    (fun x hx => by
      have h1 : E.2.2.2.2.2.2.2.2.2.exceptionTable = #[] := Array.isEmpty_iff.mp hex
      rw [h1] at hx; cases hx) (by show 2 + 3 < _; omega) (by show 2 * 0 + 1 + 81 ≤ _; omega) (hlocks := zx_l X)
  have hold : ∀ q : Nat, q < E.2.2.2.2.1.heap.size → U.heap[q]? = E.2.2.2.2.1.heap[q]? := by
    intro q hq
    obtain ⟨c', h1, h2, h3, h4⟩ := hsame.2.2.2.2.2 q _ (Array.getElem?_eq_getElem hq)
    have h5 : c' = E.2.2.2.2.1.heap[q] := by
      rw [h2]
      have : c'.slots = E.2.2.2.2.1.heap[q].slots := Array.ext_getElem? fun i => h4 i (by simp)
      rw [this]
    rw [Array.getElem?_eq_getElem hq, ← h5]
    exact h1
  refine ⟨U, hst, .threw E.2.2.2.2.1.heap.size, hrun, hend, Or.inr ⟨rfl, _, ce, rfl, Nat.le_refl _, hce, hcell.vm, hcell.cls, hcell.self⟩, ?_, ?_, hWU, [], hsame, fun q hq => by cases hq⟩
  · exact hP.kept (fun k q hk => hold q.1 (hP k q hk).lt)
  · exact ⟨hsame.2.1, fun q h1 _ => hold q h1⟩
end ZTR
