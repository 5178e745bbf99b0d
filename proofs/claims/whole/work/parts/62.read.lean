/-! The other operations on an operand that was read. -/
set_option maxRecDepth 100000 in
theorem re_othF {m m1 m2 : ZS} {val : Int64} {op s r md q : Nat} (hop : op = 2 ∨ op = 11 ∨ op = 18 ∨ op = 19 ∨ op = 20 ∨ op = 26 ∨ op = 29) (f2 : f_M_locate m (nI md) (nI q) (nI s) = some m1) (f3 : f_M_operand m1 (nI md) (nI q) (nI s) = some (val, m2)) (g15 : ¬ m2 0 15 = 0) : f_M_others m (nI op) (nI s) (nI r) (nI md) (nI q) = some m2 := by
  obtain ⟨t0, t1, t2, t3, t4, t5, t6, t7, t8, t9, t10, t11, t12, t13, t14, t15, t16, t17, t18, t19, t20, t21, t22, t23, t24, t25, t26, t27, t28, t29⟩ := re_te (op := op) (by omega)
  simp only [f_M_others, f2, f3, Option.bind_some, if_neg g15, f_M_others_170, f_M_others_201, f_M_others_249, f_M_others_261, f_M_others_276, f_M_others_305, f_M_divides, f_M_checks, t27, t12, t22, t23, t2, t11, t18, t19, t20, t26, t29]
  rcases hop with rfl | rfl | rfl | rfl | rfl | rfl | rfl <;> simp only [Nat.reduceEqDiff, if_false, if_true]
set_option maxRecDepth 100000 in
theorem re_okB {N f : Nat} {th : Int32} {c m m0 m1 : ZS} {op s r md q u v : Nat} (h : re_cx N f th c m op s r md q u v) (hop : op = 2 ∨ op = 11 ∨ op = 18 ∨ op = 19 ∨ op = 20 ∨ op = 26 ∨ op = 29) (hs1 : op = 2 ∨ op = 11 ∨ s = 1) (f2 : f_M_locate m0 (nI md) (nI q) (nI s) = some m1) (f3 : f_M_operand m1 (nI md) (nI q) (nI s) = some (lN v, m)) : ∃ c' m', re_et c op s r u (nI v) = some c' ∧ f_M_others m0 (nI op) (nI s) (nI r) (nI md) (nI q) = some m' ∧ re_O N f th c' m' := by
  obtain ⟨hO, h0, hs, hr, hmd, hq, e25, e26, e27, e28, hu, e2, hV⟩ := id h
  have hvW : v < re_W s := hV.1
  have g15 : m 0 15 = 0 := by rw [hO.1.2.2.2.2.1, h0]
  have er : ¬ (nI r < 0 ∨ 8 ≤ r) := by have := re_ri hr; rwa [re_cl hr] at this
  have e2m : m 2 r = nI u := by rw [hO.1.1.2.1, e2]
  obtain ⟨t0, t1, t2, t3, t4, t5, t6, t7, t8, t9, t10, t11, t12, t13, t14, t15, t16, t17, t18, t19, t20, t21, t22, t23, t24, t25, t26, t27, t28, t29⟩ := re_te (op := op) (by omega)
  have hc : f_M_cut m (nI u).toInt64 1 = some (lN (u % 65536), m) := re_cutn (s := 1) (by decide) hu
  have e3 : nI u &&& 65535 = nI (u % 65536) := re_andW (s := 1) (by decide) _
  simp only [f_M_others, f2, f3, Option.bind_some, if_pos g15, f_M_others_170, f_M_others_201, f_M_others_249, f_M_others_261, f_M_others_276, f_M_others_305, t27, t12, t22, t23, t2, t11, t18, t19, t20, t26, t29, re_signed hs, lN_i, re_cl hr, if_neg er, zs_nm, e2m, hc, lN_mul, re_bS]
  rcases hop with rfl | rfl | rfl | rfl | rfl | rfl | rfl
  · simp only [re_et, Nat.reduceEqDiff, if_false, if_true, re_withSign hs, Option.bind_some, zs_nm]
    have hd := re_aput hO.1 r (re_sx s (nI v))
    exact ⟨_, _, rfl, rfl, hO.keep hd.1 hd.2⟩
  · simp only [re_et, Nat.reduceEqDiff, if_false, if_true, re_withSign hs, Option.bind_some, zs_nm]
    rw [hO.1.1.2.2.1 r]
    have hd := re_aput hO.1 r (c 3 r + re_sx s (nI v))
    exact ⟨_, _, rfl, rfl, hO.keep hd.1 hd.2⟩
  · have h1 : s = 1 := by omega
    subst h1
    obtain ⟨c', m1', k1, k2, hM', hK'⟩ := re_mult (u := u) hO.1 hr (show v < 65536 from hvW) e26
    simp only [re_et, Nat.reduceEqDiff, if_false, if_true, e3, k1, k2, Option.bind_some, re_bS]
    rw [lN_i] at hM' hK'
    exact ⟨_, _, rfl, rfl, hO.keep hM' hK'⟩
  · have h1 : s = 1 := by omega
    subst h1
    obtain ⟨⟨c', m', k1, k2, k3⟩, -⟩ := re_divide hO h0 hr hu (show v < 65536 from hvW) e26 e2
    simp only [re_et, Nat.reduceEqDiff, if_false, if_true, k1, k2, re_bS]
    exact ⟨_, _, rfl, rfl, k3⟩
  · have h1 : s = 1 := by omega
    subst h1
    obtain ⟨-, c', m', k1, k2, k3⟩ := re_divide hO h0 hr hu (show v < 65536 from hvW) e26 e2
    simp only [re_et, Nat.reduceEqDiff, if_false, if_true, k1, k2, re_bS]
    exact ⟨_, _, rfl, rfl, k3⟩
  · obtain ⟨c', m', k1, k2, hM', hK', -, -⟩ := re_chgM hO.1 (nI v)
    simp only [re_et, Nat.reduceEqDiff, if_false, if_true, k1, k2, re_bS]
    exact ⟨_, _, rfl, rfl, hO.keep hM' hK'⟩
  · have h1 : s = 1 := by omega
    subst h1
    obtain ⟨c', m', k1, k2, k3⟩ := re_check hO h0 hr hu (show v < 65536 from hvW) e2
    simp only [re_et, Nat.reduceEqDiff, if_false, if_true, k1, k2, re_bS]
    exact ⟨_, _, rfl, rfl, k3⟩
/-- every operation that reads its operand -/
def re_dc (c : ZS) (op s r md q : Nat) : Prop := op < 32 ∧ s < 3 ∧ r < 8 ∧ md < 8 ∧ q < 8 ∧ c 0 24 = nI op ∧ c 0 25 = nI s ∧ c 0 26 = nI r ∧ c 0 27 = nI md ∧ c 0 28 = nI q
set_option maxRecDepth 100000 in
theorem re_ropl {op : Nat} (hop : op < 32) (h : re_rdo op = true) : (op = 0 ∨ op = 3 ∨ op = 4 ∨ op = 5 ∨ op = 6 ∨ op = 7 ∨ op = 8 ∨ op = 9 ∨ op = 10 ∨ op = 14 ∨ op = 15 ∨ op = 16) ∨ (op = 2 ∨ op = 11 ∨ op = 18 ∨ op = 19 ∨ op = 20 ∨ op = 26 ∨ op = 29) := by
  have k : ∀ o : Fin 32, re_rdo o.val = true → (o.val = 0 ∨ o.val = 3 ∨ o.val = 4 ∨ o.val = 5 ∨ o.val = 6 ∨ o.val = 7 ∨ o.val = 8 ∨ o.val = 9 ∨ o.val = 10 ∨ o.val = 14 ∨ o.val = 15 ∨ o.val = 16) ∨ (o.val = 2 ∨ o.val = 11 ∨ o.val = 18 ∨ o.val = 19 ∨ o.val = 20 ∨ o.val = 26 ∨ o.val = 29) := by decide
  exact k ⟨op, hop⟩ h
set_option maxRecDepth 100000 in
theorem re_lgA : ∀ (op : Fin 32) (s : Fin 4) (md q : Fin 8), re_leg op.val s.val 0 md.val q.val = true → (op.val = 21 ∨ op.val = 24 ∨ op.val = 25 ∨ op.val = 28) ∨ (s.val < 3 ∧ op.val < 30) := by decide +kernel
set_option maxRecDepth 100000 in
theorem re_lgB : ∀ (op : Fin 32) (s : Fin 4) (md q : Fin 8), re_leg op.val s.val 0 md.val q.val = true → (op.val = 21 ∨ op.val = 24 ∨ op.val = 25 ∨ op.val = 28) ∨ op.val = 17 ∨ re_any md.val q.val = true := by decide +kernel
set_option maxRecDepth 100000 in
theorem re_lgC : ∀ (op : Fin 32) (s : Fin 4) (md q : Fin 8), re_leg op.val s.val 0 md.val q.val = true → re_alt op.val = true → ¬ md.val = 1 ∧ ¬ (md.val = 6 ∧ q.val = 2) := by decide +kernel
set_option maxRecDepth 100000 in
theorem re_lgD : ∀ (op : Fin 32) (s : Fin 4) (md q : Fin 8), re_leg op.val s.val 0 md.val q.val = true → (op.val = 18 ∨ op.val = 19 ∨ op.val = 20 ∨ op.val = 26 ∨ op.val = 27 ∨ op.val = 29) → s.val = 1 := by decide +kernel
set_option maxRecDepth 100000 in
theorem re_lgE : ∀ (op : Fin 32) (s : Fin 4) (md q : Fin 8), re_leg op.val s.val 0 md.val q.val = true → re_pl op.val = true → 2 ≤ md.val ∧ ¬ (md.val = 6 ∧ q.val = 2) := by decide +kernel
set_option maxRecDepth 100000 in
theorem re_lgf {op s md q : Nat} (hop : op < 32) (hs : s < 4) (hmd : md < 8) (hq : q < 8) (n : ¬ (op = 21 ∨ op = 24 ∨ op = 25 ∨ op = 28)) (h : re_leg op s 0 md q = true) : s < 3 ∧ op < 30 ∧ (op = 17 ∨ re_any md q = true) ∧ ((op = 1 ∨ op = 9 ∨ op = 10 ∨ op = 13 ∨ op = 15 ∨ op = 16 ∨ op = 27) → ¬ md = 1 ∧ ¬ (md = 6 ∧ q = 2)) ∧ ((op = 18 ∨ op = 19 ∨ op = 20 ∨ op = 26 ∨ op = 27 ∨ op = 29) → s = 1) ∧ ((op = 12 ∨ op = 22 ∨ op = 23) → 2 ≤ md ∧ ¬ (md = 6 ∧ q = 2)) := by
  have a := (re_lgA ⟨op, hop⟩ ⟨s, hs⟩ ⟨md, hmd⟩ ⟨q, hq⟩ h).resolve_left n
  have b := (re_lgB ⟨op, hop⟩ ⟨s, hs⟩ ⟨md, hmd⟩ ⟨q, hq⟩ h).resolve_left n
  refine ⟨a.1, a.2, b, fun hh => re_lgC ⟨op, hop⟩ ⟨s, hs⟩ ⟨md, hmd⟩ ⟨q, hq⟩ h ?_, re_lgD ⟨op, hop⟩ ⟨s, hs⟩ ⟨md, hmd⟩ ⟨q, hq⟩ h, fun hh => re_lgE ⟨op, hop⟩ ⟨s, hs⟩ ⟨md, hmd⟩ ⟨q, hq⟩ h ?_⟩
  · rcases hh with rfl | rfl | rfl | rfl | rfl | rfl | rfl <;> rfl
  · rcases hh with rfl | rfl | rfl <;> rfl
set_option maxRecDepth 100000 in
theorem re_lgr {op s r md q : Nat} (h : re_leg op s r md q = true) (n21 : ¬ op = 21) : re_leg op s 0 md q = true := by
  unfold re_leg at h ⊢
  rw [if_neg n21] at h ⊢
  exact h
set_option maxRecDepth 100000 in
theorem re_opR {N f : Nat} {th : Int32} {c m : ZS} {op s r md q : Nat} (hO : re_O N f th c m) (h0 : c 0 10 = 0) (hd : re_dc c op s r md q) (hl : re_leg op s r md q = true) (hrd : re_rdo op = true) : ∃ c1 c' m', f_P_takeOperand c = some c1 ∧ c1 0 22 = c 0 22 ∧ (if c1 0 10 = 0 then f_P_execute c1 else some c1) = some c' ∧ f_M_does m (nI op) (nI s) (nI r) (nI md) (nI q) = some m' ∧ re_O N f th c' m' := by
  obtain ⟨hop, hs, hr, hmd, hq, e24, e25, e26, e27, e28⟩ := hd
  have hL := re_ropl hop hrd
  have n21 : ¬ op = 21 := by omega
  obtain ⟨-, -, y1, y2, y3, -⟩ := re_lgf hop (show s < 4 by omega) hmd hq (by omega) (re_lgr hl n21)
  have hany : re_any md q = true := y1.resolve_left (show ¬ op = 17 by omega)
  obtain ⟨c1, m1, m2, val, f1, f2, f3, hM, hJ, hm1, hV⟩ := re_take hO.1 h0 hop hs hmd hq hany e24 e25 e27 e28 hrd
  have hO1 := re_J.out hO hM hJ
  obtain ⟨u, hu, eu⟩ := re_of32 (c 2 r)
  have e2m1 : m1 2 r = nI u := (hm1 r).trans eu
  have j22 := hJ.1 22 (by decide) (by decide)
  by_cases g : c1 0 10 = 0
  · obtain ⟨v, hv⟩ := hV g
    have ev : val = lN v := hv.2.2.1
    subst ev
    have g15 : m2 0 15 = 0 := by rw [hM.2.2.2.2.1, g]
    have e2c1 : c1 2 r = nI u := (hJ.2.1 r).trans eu
    have cx : re_cx N f th c1 m2 op s r md q u v := ⟨hO1, g, hs, hr, hmd, hq, (hJ.1 25 (by decide) (by decide)).trans e25, (hJ.1 26 (by decide) (by decide)).trans e26, (hJ.1 27 (by decide) (by decide)).trans e27, (hJ.1 28 (by decide) (by decide)).trans e28, hu, e2c1, hv⟩
    have ex := re_exC hop hr ((hJ.1 24 (by decide) (by decide)).trans e24) cx.2.2.2.2.2.2.1 cx.2.2.2.2.2.2.2.1 e2c1 hv.2.1
    rcases hL with hA | hB
    · obtain ⟨c', m', k1, k2, k3⟩ := re_okA (pk := c1 0 15) cx hA (fun hh => y2 (by show op = 1 ∨ op = 9 ∨ op = 10 ∨ op = 13 ∨ op = 15 ∨ op = 16 ∨ op = 27; omega))
      refine ⟨c1, c', m', f1, j22, by rw [if_pos g, ex, k1], ?_, k3⟩
      rw [re_doesR (by omega) (by omega) (by omega) (by omega), re_reckOK hop (by omega) (by omega) hs hr hu f2 e2m1 f3 g15 (re_packed hM.2.1), k2]
    · obtain ⟨c', m', k1, k2, k3⟩ := re_okB cx hB (by
        rcases hB with hh | hh | hh | hh | hh | hh | hh
        · exact Or.inl hh
        · exact Or.inr (Or.inl hh)
        · exact Or.inr (Or.inr (y3 (Or.inl hh)))
        · exact Or.inr (Or.inr (y3 (Or.inr (Or.inl hh))))
        · exact Or.inr (Or.inr (y3 (Or.inr (Or.inr (Or.inl hh)))))
        · exact Or.inr (Or.inr (y3 (Or.inr (Or.inr (Or.inr (Or.inl hh))))))
        · exact Or.inr (Or.inr (y3 (Or.inr (Or.inr (Or.inr (Or.inr (Or.inr hh)))))))) f2 f3
      refine ⟨c1, c', m', f1, j22, by rw [if_pos g, ex, k1], ?_, k3⟩
      rw [re_doesO hop (by omega) (by omega) (by omega) (by omega) (by omega), k2]
  · have g15 : ¬ m2 0 15 = 0 := by rw [hM.2.2.2.2.1]; exact g
    refine ⟨c1, c1, m2, f1, j22, by rw [if_neg g], ?_, hO1⟩
    rcases hL with hA | hB
    · rw [re_doesR (by omega) (by omega) (by omega) (by omega), re_reckF hop (by omega) (by omega) hs hr hu f2 e2m1 f3 g15]
    · rw [re_doesO hop (by omega) (by omega) (by omega) (by omega) (by omega), re_othF hB f2 f3 g15]
