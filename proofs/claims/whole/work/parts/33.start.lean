/-! What the start gives: the classes' numbers, the two static tables, what throws need; the two worlds are in order. -/
theorem kw_17 : (Jvm.Cond.instantiable "FrameMachine" (5 : Nat)) ∈ lw_tbl := zk_1 (List.mem_of_getElem? (i := 17) rfl)
theorem kw_367 : (Jvm.Cond.castable "java/lang/IllegalArgumentException" "java/lang/IllegalArgumentException") ∈ lw_tbl := zk_2 (List.mem_of_getElem? (i := 127) rfl)
theorem kw_369 : (Jvm.Cond.declares ({ cls := "java/lang/RuntimeException", name := "<init>", desc := "(Ljava/lang/String;)V" } : Jvm.MethodName)) ∈ lw_tbl := zk_2 (List.mem_of_getElem? (i := 129) rfl)
theorem kw_371 : (Jvm.Cond.declares ({ cls := "java/lang/Exception", name := "<init>", desc := "(Ljava/lang/String;)V" } : Jvm.MethodName)) ∈ lw_tbl := zk_2 (List.mem_of_getElem? (i := 131) rfl)
theorem kw_373 : (Jvm.Cond.declares ({ cls := "java/lang/Throwable", name := "<init>", desc := "(Ljava/lang/String;)V" } : Jvm.MethodName)) ∈ lw_tbl := zk_2 (List.mem_of_getElem? (i := 133) rfl)
theorem kw_392 : (Jvm.Cond.laysStatic "java/lang/Throwable" "UNASSIGNED_STACK" "[Ljava/lang/StackTraceElement;") ∈ lw_tbl := zk_2 (List.mem_of_getElem? (i := 152) rfl)
theorem kw_394 : (Jvm.Cond.laysStatic "java/lang/Throwable" "SUPPRESSED_SENTINEL" "Ljava/util/List;") ∈ lw_tbl := zk_2 (List.mem_of_getElem? (i := 154) rfl)
theorem kw_404 : (Jvm.Cond.stringRef "FrameMachine" (62 : Nat) "no word of memory, or no word") ∈ lw_tbl := zk_2 (List.mem_of_getElem? (i := 164) rfl)
theorem kw_445 : (Jvm.Cond.stringRef "FrameMachine" (71 : Nat) "no word of memory") ∈ lw_tbl := zk_2 (List.mem_of_getElem? (i := 205) rfl)
theorem kw_453 : (Jvm.Cond.stringRef "FrameMachine" (77 : Nat) "no register") ∈ lw_tbl := zk_2 (List.mem_of_getElem? (i := 213) rfl)
theorem kw_465 : (Jvm.Cond.stringRef "FrameMachine" (91 : Nat) "steps are 1 to 8") ∈ lw_tbl := zk_2 (List.mem_of_getElem? (i := 225) rfl)
theorem kw_539 : (Jvm.Cond.laysStatic "FrameMachine$Instruction" "SIZES" "[I") ∈ lw_tbl := zk_3 (List.mem_of_getElem? (i := 59) rfl)
theorem kw_549 : (Jvm.Cond.laysStatic "FrameMachine$Instruction" "KINDS" "[I") ∈ lw_tbl := zk_3 (List.mem_of_getElem? (i := 69) rfl)
theorem kw_754 : (Jvm.Cond.stringRef "FrameMachine" (97 : Nat) "no byte") ∈ lw_tbl := zk_4 (List.mem_of_getElem? (i := 34) rfl)
theorem kw_771 : (Jvm.Cond.instantiable "FrameMachineModel" (35 : Nat)) ∈ lw_tbl := zk_4 (List.mem_of_getElem? (i := 51) rfl)
theorem va_D_of {ws : va_W} {ad : Nat → Nat} {n : Nat} (hm : ws.map Prod.fst = (List.range n).map ad) (hinj : ∀ i j, i < n → j < n → ad i = ad j → i = j) : va_D (fun q => ∃ k, k < n ∧ q = ad k) ws := by
  have key : ∀ (i : Nat) (p : Nat × va_E), ws[i]? = some p → i < n ∧ p.1 = ad i := by
    intro i p h
    have h1 : (ws.map Prod.fst)[i]? = some p.1 := by rw [List.getElem?_map, h]; rfl
    rw [hm, List.getElem?_map] at h1
    by_cases hi : i < n
    · rw [List.getElem?_range hi] at h1
      exact ⟨hi, (Option.some.inj h1).symm⟩
    · rw [List.getElem?_eq_none (by simpa using hi)] at h1
      cases h1
  exact ⟨fun i j p q h1 h2 e => hinj i j (key i p h1).1 (key j q h2).1 (by rw [← (key i p h1).2, ← (key j q h2).2]; exact e), fun k q h => ⟨k, key k q h⟩⟩
theorem zcV_ok {P : ZP} (hinj : ∀ i j, i < 14 → j < 14 → P.1 i = P.1 j → i = j) : ZVok (zcV P) := by
  refine ⟨fun σ => va_D_of (ad := P.1) rfl hinj, fun A u U H H1 hvm hq h => ?_, fun A B U H hAB h => ?_⟩
  · obtain ⟨h1, h2, h3, h4⟩ := h
    exact ⟨(h1.moved hvm).kept hq, (h2.moved hvm).kept hq, (h3.moved hvm).kept hq, (h4.moved hvm).kept hq⟩
  · obtain ⟨h1, h2, h3, h4⟩ := h
    exact ⟨h1.narrow hAB, h2.narrow hAB, h3.narrow hAB, h4.narrow hAB⟩
theorem zmV_ok {P : ZP} (hinj : ∀ i j, i < 5 → j < 5 → P.1 i = P.1 j → i = j) : ZVok (zmV P) :=
  ⟨fun σ => va_D_of (ad := P.1) rfl hinj, fun _ _ _ _ _ _ _ h => h, fun _ _ _ _ _ h => h⟩
theorem zq_K {s : State} {args : Array Value} (ht : ∀ w ∈ zw_w, w.before args s = true) : ∃ D : va_G, va_K D zq_cl [] s := by
  have h0 : ∀ c : Nat, ∃ x : ClassId × (Nat → Nat), ∀ q, zq_cl[c]? = some q → u_Kn s q.1 q.2.1 q.2.2 x.1 x.2 := by
    intro c
    match c with
    | 0 =>
      obtain ⟨a, b, h⟩ := u_known (n := 5) ht zi_F (ht _ (zw_in kw_17 rfl))
      exact ⟨(a, b), fun q hq => (by cases hq; exact h)⟩
    | 1 =>
      obtain ⟨a, b, h⟩ := u_known (n := 11) ht zi_D (ht _ (zw_in kw_25 rfl))
      exact ⟨(a, b), fun q hq => (by cases hq; exact h)⟩
    | 2 =>
      obtain ⟨a, b, h⟩ := u_known (n := 5) ht zi_B (ht _ (zw_in kw_68 rfl))
      exact ⟨(a, b), fun q hq => (by cases hq; exact h)⟩
    | 3 =>
      obtain ⟨a, b, h⟩ := u_known (n := 5) ht zi_G (ht _ (zw_in kw_97 rfl))
      exact ⟨(a, b), fun q hq => (by cases hq; exact h)⟩
    | 4 =>
      obtain ⟨a, b, h⟩ := u_known (n := 2) ht zi_Q (ht _ (zw_in kw_134 rfl))
      exact ⟨(a, b), fun q hq => (by cases hq; exact h)⟩
    | 5 =>
      obtain ⟨a, b, h⟩ := u_known (n := 6) ht zi_E (ht _ (zw_in kw_147 rfl))
      exact ⟨(a, b), fun q hq => (by cases hq; exact h)⟩
    | 6 =>
      obtain ⟨a, b, h⟩ := u_known (n := 11) ht zi_P (ht _ (zw_in kw_176 rfl))
      exact ⟨(a, b), fun q hq => (by cases hq; exact h)⟩
    | 7 =>
      obtain ⟨a, b, h⟩ := u_known (n := 6) ht zi_I (ht _ (zw_in kw_182 rfl))
      exact ⟨(a, b), fun q hq => (by cases hq; exact h)⟩
    | 8 =>
      obtain ⟨a, b, h⟩ := u_known (n := 8) ht zi_O (ht _ (zw_in kw_215 rfl))
      exact ⟨(a, b), fun q hq => (by cases hq; exact h)⟩
    | 9 =>
      obtain ⟨a, b, h⟩ := u_known (n := 1) ht zi_A (ht _ (zw_in kw_248 rfl))
      exact ⟨(a, b), fun q hq => (by cases hq; exact h)⟩
    | 10 =>
      obtain ⟨a, b, h⟩ := u_known (n := 35) ht zi_M (ht _ (zw_in kw_771 rfl))
      exact ⟨(a, b), fun q hq => (by cases hq; exact h)⟩
    | n + 11 => exact ⟨(0, fun _ => 0), fun q hq => absurd hq (by simp)⟩
  obtain ⟨f, hf⟩ := Classical.axiomOfChoice h0
  exact ⟨(fun c => (f c).1, fun c => (f c).2), fun c q hq => hf c q hq, fun k q hk => (by cases hk)⟩
theorem zn_KINDS : ∀ j, j < 32 → Cond.eq (.elem (.static "FrameMachine$Instruction" "KINDS" "[I") (.int (Int32.ofNat j))) (.int (tb_KINDS j)) ∈ flatC (Jvm.Cond.and given_1 narrow_1) := by decide +kernel
theorem zn_SIZES : ∀ j, j < 32 → Cond.eq (.elem (.static "FrameMachine$Instruction" "SIZES" "[I") (.int (Int32.ofNat j))) (.int (tb_SIZES j)) ∈ flatC (Jvm.Cond.and given_1 narrow_1) := by decide +kernel
theorem zn_more : ∀ w ∈ ([.arrayOf (.static "FrameMachine$Instruction" "KINDS" "[I") .int, .arrayOf (.static "FrameMachine$Instruction" "SIZES" "[I") .int, .eq (.length (.static "FrameMachine$Instruction" "KINDS" "[I")) (.int 32), .eq (.length (.static "FrameMachine$Instruction" "SIZES" "[I")) (.int 32),
    .isRef (.static "java/lang/Throwable" "UNASSIGNED_STACK" "[Ljava/lang/StackTraceElement;"), .isRef (.static "java/lang/Throwable" "SUPPRESSED_SENTINEL" "Ljava/util/List;"),
    .exactly (.string "FrameMachine" 62) "java/lang/String", .exactly (.string "FrameMachine" 71) "java/lang/String", .exactly (.string "FrameMachine" 77) "java/lang/String", .exactly (.string "FrameMachine" 91) "java/lang/String", .exactly (.string "FrameMachine" 97) "java/lang/String"] : List Cond), w ∈ flatC (Jvm.Cond.and given_1 narrow_1) := by decide +kernel
section ZST
variable {s : State} {args : Array Value} (hts : ∀ w ∈ lw_tbl, w.before args s = true) (hg : (Jvm.Cond.and given_1 narrow_1).before args s = true)
theorem zc_tab {n : String} {tb : Nat → Int32} (hts : ∀ w ∈ lw_tbl, w.before args s = true) (hg : (Jvm.Cond.and given_1 narrow_1).before args s = true) (h1 : Cond.laysStatic "FrameMachine$Instruction" n "[I" ∈ lw_tbl) (h2 : Cond.initialized "FrameMachine$Instruction" ∈ lw_tbl) (h3 : Cond.arrayOf (.static "FrameMachine$Instruction" n "[I") .int ∈ flatC (Jvm.Cond.and given_1 narrow_1)) (h4 : Cond.eq (.length (.static "FrameMachine$Instruction" n "[I")) (.int 32) ∈ flatC (Jvm.Cond.and given_1 narrow_1))
    (h5 : ∀ j, j < 32 → Cond.eq (.elem (.static "FrameMachine$Instruction" n "[I") (.int (Int32.ofNat j))) (.int (tb j)) ∈ flatC (Jvm.Cond.and given_1 narrow_1)) : ∃ t : Nat, va_Z "FrameMachine$Instruction" n "[I" (.ref t) (fun q => s.heap.size ≤ q) s s.heap ∧ va_T .int t 32 (fun k => .int (tb k)) (fun q => s.heap.size ≤ q) s s.heap := by
  have hf := flat_of_before _ hg
  obtain ⟨t, ht, hT⟩ := va_Tof (tm := .static "FrameMachine$Instruction" n "[I") (N := 32) (f := fun k => .int (tb k)) (A := fun q => s.heap.size ≤ q) (by decide) (hf _ h3) (va_eqt (hf _ h4)) (fun j hj => va_eqt (hf _ (h5 j hj))) (fun a h => Nat.not_le.mpr h)
  exact ⟨t, va_Zref (hts _ h1) (hts _ h2) ht (fun a h => Nat.not_le.mpr h), hT⟩
theorem zt_str {k : Nat} {tx : String} (hts : ∀ w ∈ lw_tbl, w.before args s = true) (hg : (Jvm.Cond.and given_1 narrow_1).before args s = true) (h1 : Cond.stringRef "FrameMachine" k tx ∈ lw_tbl) (h2 : Cond.exactly (.string "FrameMachine" k) "java/lang/String" ∈ flatC (Jvm.Cond.and given_1 narrow_1)) : ∃ a, vk_R "FrameMachine" k tx a s := by
  have hf := flat_of_before _ hg
  obtain ⟨a, c, cA, kA, q1, -⟩ := Cond.exactly_spec (args := args) (first := s) (o := none) (s := s) (idx := []) (t := .string "FrameMachine" k) (cls := "java/lang/String") (hf _ h2)
  exact ⟨a, vk_R.of (hts _ h1) q1⟩
theorem zt_S_start (hts : ∀ w ∈ lw_tbl, w.before args s = true) (hg : (Jvm.Cond.and given_1 narrow_1).before args s = true) : zt_S s := by
  have hf := flat_of_before _ hg
  refine ⟨fun w hw => ?_, zt_L.of (hts _ kw_392) (hf _ (zn_more _ (List.mem_of_getElem? (i := 4) rfl))), zt_L.of (hts _ kw_394) (hf _ (zn_more _ (List.mem_of_getElem? (i := 5) rfl))), zt_str hts hg kw_404 (zn_more _ (List.mem_of_getElem? (i := 6) rfl)), zt_str hts hg kw_445 (zn_more _ (List.mem_of_getElem? (i := 7) rfl)), zt_str hts hg kw_453 (zn_more _ (List.mem_of_getElem? (i := 8) rfl)), zt_str hts hg kw_465 (zn_more _ (List.mem_of_getElem? (i := 9) rfl)), zt_str hts hg kw_754 (zn_more _ (List.mem_of_getElem? (i := 10) rfl))⟩
  simp only [zt_dw, List.mem_cons, List.not_mem_nil, or_false] at hw
  rcases hw with rfl | rfl | rfl | rfl
  · exact va_Nw.of rfl (hts _ kw_369)
  · exact va_Nw.of rfl (hts _ kw_371)
  · exact va_Nw.of rfl (hts _ kw_373)
  · exact va_Nw.of rfl (hts _ kw_367)
theorem zw_N_start (hts : ∀ w ∈ lw_tbl, w.before args s = true) : zw_N s := by
  intro w hw
  have h1 := hts w (List.mem_filter.mp hw).1
  have h2 := (List.mem_filter.mp hw).2
  cases w <;> first | exact va_Nw.of rfl h1 | cases h2
theorem zc_T_start (hts : ∀ w ∈ lw_tbl, w.before args s = true) (hg : (Jvm.Cond.and given_1 narrow_1).before args s = true) : ∃ t1 t2 : Nat, ∀ P : ZP, P.1 15 = t1 → P.1 14 = t2 → zc_T P (fun q => s.heap.size ≤ q) s s.heap := by
  obtain ⟨t1, h1, h2⟩ := zc_tab (tb := tb_KINDS) hts hg kw_549 kw_8 (zn_more _ (List.mem_of_getElem? (i := 0) rfl)) (zn_more _ (List.mem_of_getElem? (i := 2) rfl)) zn_KINDS
  obtain ⟨t2, h3, h4⟩ := zc_tab (tb := tb_SIZES) hts hg kw_539 kw_8 (zn_more _ (List.mem_of_getElem? (i := 1) rfl)) (zn_more _ (List.mem_of_getElem? (i := 3) rfl)) zn_SIZES
  refine ⟨t1, t2, fun P e1 e2 => ?_⟩
  unfold zc_T
  rw [e1, e2]
  exact ⟨h1, h2, h3, h4⟩
end ZST
