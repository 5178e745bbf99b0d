/-! The two readings of an operation, laid side by side. -/
set_option maxRecDepth 100000 in
theorem re_te {op : Nat} (hop : op < 64) : (nI op = 0 ↔ op = 0) ∧ (nI op = 1 ↔ op = 1) ∧ (nI op = 2 ↔ op = 2) ∧ (nI op = 3 ↔ op = 3) ∧ (nI op = 4 ↔ op = 4) ∧ (nI op = 5 ↔ op = 5) ∧ (nI op = 6 ↔ op = 6) ∧ (nI op = 7 ↔ op = 7) ∧ (nI op = 8 ↔ op = 8) ∧ (nI op = 9 ↔ op = 9) ∧ (nI op = 10 ↔ op = 10) ∧ (nI op = 11 ↔ op = 11) ∧ (nI op = 12 ↔ op = 12) ∧ (nI op = 13 ↔ op = 13) ∧ (nI op = 14 ↔ op = 14) ∧ (nI op = 15 ↔ op = 15) ∧ (nI op = 16 ↔ op = 16) ∧ (nI op = 17 ↔ op = 17) ∧ (nI op = 18 ↔ op = 18) ∧ (nI op = 19 ↔ op = 19) ∧ (nI op = 20 ↔ op = 20) ∧ (nI op = 21 ↔ op = 21) ∧ (nI op = 22 ↔ op = 22) ∧ (nI op = 23 ↔ op = 23) ∧ (nI op = 24 ↔ op = 24) ∧ (nI op = 25 ↔ op = 25) ∧ (nI op = 26 ↔ op = 26) ∧ (nI op = 27 ↔ op = 27) ∧ (nI op = 28 ↔ op = 28) ∧ (nI op = 29 ↔ op = 29) := ⟨re_inj (a := op) (b := 0) (by omega) (by decide), re_inj (a := op) (b := 1) (by omega) (by decide), re_inj (a := op) (b := 2) (by omega) (by decide), re_inj (a := op) (b := 3) (by omega) (by decide), re_inj (a := op) (b := 4) (by omega) (by decide), re_inj (a := op) (b := 5) (by omega) (by decide), re_inj (a := op) (b := 6) (by omega) (by decide), re_inj (a := op) (b := 7) (by omega) (by decide), re_inj (a := op) (b := 8) (by omega) (by decide), re_inj (a := op) (b := 9) (by omega) (by decide), re_inj (a := op) (b := 10) (by omega) (by decide), re_inj (a := op) (b := 11) (by omega) (by decide), re_inj (a := op) (b := 12) (by omega) (by decide), re_inj (a := op) (b := 13) (by omega) (by decide), re_inj (a := op) (b := 14) (by omega) (by decide), re_inj (a := op) (b := 15) (by omega) (by decide), re_inj (a := op) (b := 16) (by omega) (by decide), re_inj (a := op) (b := 17) (by omega) (by decide), re_inj (a := op) (b := 18) (by omega) (by decide), re_inj (a := op) (b := 19) (by omega) (by decide), re_inj (a := op) (b := 20) (by omega) (by decide), re_inj (a := op) (b := 21) (by omega) (by decide), re_inj (a := op) (b := 22) (by omega) (by decide), re_inj (a := op) (b := 23) (by omega) (by decide), re_inj (a := op) (b := 24) (by omega) (by decide), re_inj (a := op) (b := 25) (by omega) (by decide), re_inj (a := op) (b := 26) (by omega) (by decide), re_inj (a := op) (b := 27) (by omega) (by decide), re_inj (a := op) (b := 28) (by omega) (by decide), re_inj (a := op) (b := 29) (by omega) (by decide)⟩
noncomputable def re_rt (m : ZS) (op : Nat) (s r md q : Int32) (A V : Int64) (pk : Int32) : Option ZS :=
  if op = 3 then f_M_reckons_111 m (nI op) s r md q A V pk
  else if op = 9 then f_M_reckons_111 m (nI op) s r md q A V pk
  else if op = 4 then f_M_reckons_135 m (nI op) s r md q A V pk
  else if op = 5 then f_M_reckons_135 m (nI op) s r md q A V pk
  else if op = 10 then (f_M_difference m V A s 0).bind fun p15 => f_M_reckons_276 p15.2 (nI op) s r md q pk p15.1
  else if op = 15 then (f_M_difference m 0 V s 0).bind fun p14 => f_M_reckons_276 p14.2 (nI op) s r md q pk p14.1
  else if op = 0 then f_M_reckons_210 m (nI op) s r md q V pk
  else if op = 14 then f_M_reckons_210 m (nI op) s r md q V pk
  else if op = 6 then f_M_reckons_267 m (nI op) s r md q pk (A &&& V)
  else if op = 7 then f_M_reckons_267 m (nI op) s r md q pk (A ||| V)
  else if op = 8 then f_M_reckons_267 m (nI op) s r md q pk (A ^^^ V)
  else (f_M_cut m (V ^^^ (-1)) s).bind fun p13 => f_M_reckons_267 p13.2 (nI op) s r md q pk p13.1
set_option maxRecDepth 100000 in
theorem re_reckOK {m m1 m2 : ZS} {val : Int64} {op s r md q u : Nat} {pk : Int32} (hop : op < 32) (n1 : ¬ op = 1) (n13 : ¬ op = 13) (hs : s < 3) (hr : r < 8) (hu : u < 2 ^ 32) (f2 : f_M_locate m (nI md) (nI q) (nI s) = some m1) (e2 : m1 2 r = nI u) (f3 : f_M_operand m1 (nI md) (nI q) (nI s) = some (val, m2)) (g15 : m2 0 15 = 0) (hp : f_M_packed m2 = some (pk, m2)) : f_M_reckons m (nI op) (nI s) (nI r) (nI md) (nI q) = re_rt m2 op (nI s) (nI r) (nI md) (nI q) (lN (u % re_W s)) val pk := by
  have er : ¬ (nI r < 0 ∨ 8 ≤ r) := by have := re_ri hr; rwa [re_cl hr] at this
  obtain ⟨t0, t1, t2, t3, t4, t5, t6, t7, t8, t9, t10, t11, t12, t13, t14, t15, t16, t17, t18, t19, t20, t21, t22, t23, t24, t25, t26, t27, t28, t29⟩ := re_te (op := op) (by omega)
  simp only [f_M_reckons, f2, Option.bind_some, re_cl hr, if_neg er, e2, re_cutn hs hu, f3, if_pos g15, hp, t0, t1, t3, t4, t5, t6, t7, t8, t9, t10, t13, t14, t15, if_neg n1, if_neg n13]
  rfl
set_option maxRecDepth 100000 in
theorem re_reckF {m m1 m2 : ZS} {val : Int64} {op s r md q u : Nat} (hop : op < 32) (n1 : ¬ op = 1) (n13 : ¬ op = 13) (hs : s < 3) (hr : r < 8) (hu : u < 2 ^ 32) (f2 : f_M_locate m (nI md) (nI q) (nI s) = some m1) (e2 : m1 2 r = nI u) (f3 : f_M_operand m1 (nI md) (nI q) (nI s) = some (val, m2)) (g15 : ¬ m2 0 15 = 0) : f_M_reckons m (nI op) (nI s) (nI r) (nI md) (nI q) = some m2 := by
  have er : ¬ (nI r < 0 ∨ 8 ≤ r) := by have := re_ri hr; rwa [re_cl hr] at this
  obtain ⟨t0, t1, t2, t3, t4, t5, t6, t7, t8, t9, t10, t11, t12, t13, t14, t15, t16, t17, t18, t19, t20, t21, t22, t23, t24, t25, t26, t27, t28, t29⟩ := re_te (op := op) (by omega)
  simp only [f_M_reckons, f2, Option.bind_some, re_cl hr, if_neg er, e2, re_cutn hs hu, f3, if_neg g15, t1, t13, if_neg n1, if_neg n13]
set_option maxRecDepth 100000 in
theorem re_doesR {m : ZS} {op : Nat} {s r md q : Int32} (hop : op ≤ 16) (n2 : ¬ op = 2) (n11 : ¬ op = 11) (n12 : ¬ op = 12) : f_M_does m (nI op) s r md q = f_M_reckons m (nI op) s r md q := by
  obtain ⟨t0, t1, t2, t3, t4, t5, t6, t7, t8, t9, t10, t11, t12, t13, t14, t15, t16, t17, t18, t19, t20, t21, t22, t23, t24, t25, t26, t27, t28, t29⟩ := re_te (op := op) (by omega)
  have tl : nI op ≤ 17 ↔ op ≤ 17 := nI_leI (b := 17) (by omega) (by decide)
  simp only [f_M_does, f_M_does_104, t17, t21, t24, t25, t28, t2, t11, t12, tl, if_neg n2, if_neg n11, if_neg n12, if_neg (show ¬ op = 17 by omega), if_neg (show ¬ op = 21 by omega), if_neg (show ¬ op = 24 by omega), if_neg (show ¬ op = 25 by omega), if_neg (show ¬ op = 28 by omega), if_pos (show op ≤ 17 by omega)]
  cases f_M_reckons m (nI op) s r md q <;> rfl
set_option maxRecDepth 100000 in
theorem re_doesO {m : ZS} {op : Nat} {s r md q : Int32} (hop : op < 32) (h : op = 2 ∨ op = 11 ∨ op = 12 ∨ 17 < op) (n21 : ¬ op = 21) (n24 : ¬ op = 24) (n25 : ¬ op = 25) (n28 : ¬ op = 28) : f_M_does m (nI op) s r md q = f_M_others m (nI op) s r md q := by
  obtain ⟨t0, t1, t2, t3, t4, t5, t6, t7, t8, t9, t10, t11, t12, t13, t14, t15, t16, t17, t18, t19, t20, t21, t22, t23, t24, t25, t26, t27, t28, t29⟩ := re_te (op := op) (by omega)
  have tl : nI op ≤ 17 ↔ op ≤ 17 := nI_leI (b := 17) (by omega) (by decide)
  have key : f_M_does_147 m (nI op) s r md q = f_M_others m (nI op) s r md q := by
    unfold f_M_does_147; cases f_M_others m (nI op) s r md q <;> rfl
  simp only [f_M_does, f_M_does_104, t17, t21, t24, t25, t28, t2, t11, t12, tl, if_neg (show ¬ op = 17 by omega), if_neg n21, if_neg n24, if_neg n25, if_neg n28, key]
  rcases h with h | h | h | h
  · rw [if_pos h]
  · rw [if_neg (by omega), if_pos h]
  · rw [if_neg (by omega), if_neg (by omega), if_pos h]
  · rw [if_neg (by omega), if_neg (by omega), if_neg (by omega), if_neg (by omega)]
set_option maxRecDepth 100000 in
theorem re_bS (F : Option ZS) : (F.bind fun s => some s) = F := by cases F <;> rfl
set_option maxRecDepth 100000 in
theorem re_276a {m : ZS} {op : Nat} {l2 l3 l4 l5 l10 : Int32} {w : Int64} (h : op < 9) (h5 : ¬ op = 5) : f_M_reckons_276 m (nI op) l2 l3 l4 l5 l10 w = f_M_setD m l3 l2 w := by
  obtain ⟨t0, t1, t2, t3, t4, t5, t6, t7, t8, t9, t10, t11, t12, t13, t14, t15, t16, t17, t18, t19, t20, t21, t22, t23, t24, t25, t26, t27, t28, t29⟩ := re_te (op := op) (by omega)
  have t9' : (9 : Int32) ≤ nI op ↔ 9 ≤ op := nI_leI (a := 9) (by decide) (by omega)
  have tl : nI op ≤ 14 ↔ op ≤ 14 := nI_leI (b := 14) (by omega) (by decide)
  simp only [f_M_reckons_276, f_M_reckons_295, t9', t5, t9, t10, tl, if_neg h5, if_neg (show ¬ 9 ≤ op by omega), if_neg (show ¬ op = 9 by omega), if_neg (show ¬ op = 10 by omega), if_pos (show op ≤ 14 by omega), re_bS]
set_option maxRecDepth 100000 in
theorem re_276b {m : ZS} {op : Nat} {l2 l3 l4 l5 l10 : Int32} {w : Int64} (h : op = 9 ∨ op = 10 ∨ op = 15 ∨ op = 16) : f_M_reckons_276 m (nI op) l2 l3 l4 l5 l10 w = f_M_reckons_313 m l2 l4 l5 l10 w := by
  rcases h with rfl | rfl | rfl | rfl <;> rfl
set_option maxRecDepth 100000 in
theorem re_276c {m : ZS} {op : Nat} {l2 l3 l4 l5 l10 : Int32} {w : Int64} (h : op = 5 ∨ op = 14) : f_M_reckons_276 m (nI op) l2 l3 l4 l5 l10 w = some m := by
  rcases h with rfl | rfl <;> rfl
noncomputable def re_et (c : ZS) (op s r u : Nat) (V : Int32) : Option ZS :=
  if op = 0 then
    (f_P_putMarked c V).bind fun s6 =>
    some s6
  else if op = 1 then
    (f_P_storeMarked c (nI u)).bind fun s7 =>
    some s7
  else if op = 2 then
    (f_F_withSign c V (nI s)).bind fun p8 =>
        zs_nm (zs_up p8.2 3 r p8.1) fun s9 =>
    some s9
  else if op = 3 then
    (f_A_sum c (nI u) V (nI s)).bind fun p10 =>
    (f_P_put p10.2 p10.1).bind fun s11 =>
    some s11
  else if op = 4 then
    (f_A_difference c (nI u) V (nI s)).bind fun p12 =>
    (f_P_put p12.2 p12.1).bind fun s13 =>
    some s13
  else if op = 5 then
    (f_A_compare c (nI u) V (nI s)).bind fun p14 =>
    some p14.2
  else if op = 6 then
    (f_P_putMarked c ((nI u) &&& V)).bind fun s15 =>
    some s15
  else if op = 7 then
    (f_P_putMarked c ((nI u) ||| V)).bind fun s16 =>
    some s16
  else if op = 8 then
    (f_P_putMarked c ((nI u) ^^^ V)).bind fun s17 =>
    some s17
  else if op = 9 then
    (f_A_sum c V (nI u) (nI s)).bind fun p18 =>
    (f_O_store p18.2 p18.1).bind fun s19 =>
    some s19
  else if op = 10 then
    (f_A_difference c V (nI u) (nI s)).bind fun p20 =>
    (f_O_store p20.2 p20.1).bind fun s21 =>
    some s21
  else if op = 11 then
        (f_F_withSign c V (nI s)).bind fun p22 =>
        zs_nm (zs_up p22.2 3 r ((c 3 r) + p22.1)) fun s23 =>
    some s23
  else if op = 12 then
        zs_nm (zs_up c 3 r (c 0 32)) fun s24 =>
    some s24
  else if op = 13 then
    (f_P_storeMarked c 0).bind fun s25 =>
    some s25
  else if op = 14 then
    (f_A_markResult c V (nI s)).bind fun s26 =>
    some s26
  else if op = 15 then
    (f_A_difference c 0 V (nI s)).bind fun p27 =>
    (f_O_store p27.2 p27.1).bind fun s28 =>
    some s28
  else if op = 16 then
    (f_P_storeMarked c (V ^^^ ((-1)))).bind fun s29 =>
    some s29
  else if op = 17 then
    (f_P_shift c (nI u)).bind fun s30 =>
    some s30
  else if op = 18 then
    (f_P_multiply c ((nI u) &&& 65535) V).bind fun s31 =>
    some s31
  else if op = 19 then
    (f_P_divide c (((nI u).toInt64) &&& 4294967295) (V.toInt64) 0).bind fun s32 =>
    some s32
  else if op = 20 then
    (f_P_divide c ((nI u).toInt64) ((V.toInt16.toInt32).toInt64) 1).bind fun s33 =>
    some s33
  else if op = 21 then
    (f_P_branch c ).bind fun s34 =>
    some s34
  else if op = 22 then
    zs_nm (zs_up c 0 14 (c 0 32)) fun s35 =>
    some s35
  else if op = 23 then
    (f_P_call c (c 0 32)).bind fun s36 =>
    some s36
  else if op = 24 then
    (f_P_control c ).bind fun s37 =>
    some s37
  else if op = 25 then
    zs_nm (zs_up c 0 22 ((32 + (c 0 28)) + (8 * (zo_irem (c 0 27) 2)))) fun s38 =>
    some s38
  else if op = 26 then
    (f_G_changeStatus c V).bind fun s39 =>
    some s39
  else if op = 27 then
    (f_O_store c (c 0 15)).bind fun s40 =>
    some s40
  else if op = 28 then
    (f_P_exchangeOther c ).bind fun s41 =>
    some s41
  else if op = 29 then
    (f_P_check c ((nI u).toInt16.toInt32) (V.toInt16.toInt32)).bind fun s42 =>
    some s42
  else 
    some c
set_option maxRecDepth 100000 in
theorem re_exC {c : ZS} {op s r u : Nat} {V : Int32} (hop : op < 32) (hr : r < 8) (e24 : c 0 24 = nI op) (e25 : c 0 25 = nI s) (e26 : c 0 26 = nI r) (e2 : c 2 r = nI u) (e33 : c 0 33 = V) : f_P_execute c = re_et c op s r u V := by
  have er : ¬ (nI r < 0 ∨ 8 ≤ r) := by have := re_ri hr; rwa [re_cl hr] at this
  obtain ⟨t0, t1, t2, t3, t4, t5, t6, t7, t8, t9, t10, t11, t12, t13, t14, t15, t16, t17, t18, t19, t20, t21, t22, t23, t24, t25, t26, t27, t28, t29⟩ := re_te (op := op) (by omega)
  simp only [f_P_execute, zs_nm, e26, re_r8 hr, re_cl hr, if_neg er, e25, e33, e2, e24, t0, t1, t2, t3, t4, t5, t6, t7, t8, t9, t10, t11, t12, t13, t14, t15, t16, t17, t18, t19, t20, t21, t22, t23, t24, t25, t26, t27, t28, t29]
  unfold re_et
  simp only [zs_nm]
