/-! Branches, control, traps, the exchange. -/
set_option maxRecDepth 100000 in
theorem re_O.w {N f : Nat} {th : Int32} {c m : ZS} (h : re_O N f th c m) (h22 : c 0 22 = 0) : m 0 19 = 0 := by
  rcases h.2.2.2.2.2.2 with ⟨-, h2⟩ | ⟨e, h1, -, h3⟩
  · exact h2
  · have e0 : e = 0 := (re_inj (a := e) (b := 0) (by omega) (by decide)).mp (h1.symm.trans h22)
    omega
set_option maxRecDepth 100000 in
theorem re_branch {N f : Nat} {th : Int32} {c m : ZS} (hO : re_O N f th c m) (h0 : c 0 10 = 0) {s r : Nat} (hk : s * 8 + r < 16) (e25 : c 0 25 = nI s) (e26 : c 0 26 = nI r) : ∃ c' m', f_P_branch c = some c' ∧ f_M_branches m ((nI s * 8) + nI r) = some m' ∧ re_O N f th c' m' := by
  have ek : (nI s * 8) + nI r = nI (s * 8 + r) := by
    rw [show (8 : Int32) = nI 8 from rfl, pk_mul, nI_add]
  rw [ek]
  have tk : nI (s * 8 + r) = 1 ↔ s * 8 + r = 1 := re_inj (a := s * 8 + r) (b := 1) (by omega) (by decide)
  obtain ⟨v, c1, m1, hv, f1, f2, hM1, hK1, -, -, -, -⟩ := re_fetch hO.1 h0
  have hO1 := hO.keep hM1 hK1
  have e14 : m 0 2 = c 0 14 := hO.1.1.2.2.2.2
  have d25 : c1 0 25 = nI s := (hK1.1 25 (by decide)).trans e25
  have d26 : c1 0 26 = nI r := (hK1.1 26 (by decide)).trans e26
  simp only [f_P_branch, f_M_branches, zs_nm, f1, f2, Option.bind_some, e14]
  by_cases g : c1 0 10 = 0
  · have g' : m1 0 15 = 0 := by rw [hM1.2.2.2.2.1, g]
    simp only [if_pos g, if_pos g', f_I_condition, d25, d26, ek, Option.bind_some, tk]
    generalize hT : c 0 14 + (nI v).toInt16.toInt32 = T
    by_cases g1 : s * 8 + r = 1
    · obtain ⟨c2, m2, c', k1, k2, k3, hM2, hK2, q1, q2⟩ := re_callM hM1 g T
      simp only [if_pos g1, k2, k3, Option.bind_some, f_M_branches_37, f_M_branches_64, f_M_branches_68, zs_nm, re_up1, re_sg, hT, g1, re_holds1]
      by_cases g3 : c2 0 10 = 0
      · have g3' : m2 0 15 = 0 := by rw [hM2.2.2.2.2.1, g3]
        have hd := re_pcM hM2 T
        simp only [if_pos g3', if_neg (show ¬ (1 : Int32) = 0 by decide)]
        exact ⟨c', _, rfl, rfl, by rw [q1 g3]; exact hO1.keep hd.1 (hK2.trans hd.2)⟩
      · have g3' : ¬ m2 0 15 = 0 := by rw [hM2.2.2.2.2.1]; exact g3
        simp only [if_neg g3']
        exact ⟨c', _, rfl, rfl, by rw [q2 g3]; exact hO1.keep hM2 hK2⟩
    · obtain ⟨t, a, k, x, n, z, vv, cc, r0, r1, r2, r3, r4, r5, r6, r7, r8⟩ := id hM1.2.1
      simp only [if_neg g1, f_M_branches_37, f_M_branches_64, f_M_branches_68, zs_nm, re_up1, if_pos g', re_meets r0 hk, re_holds r5 r6 r7 r8 hk g1, Option.bind_some, re_sg, hT]
      cases re_cond (s * 8 + r) n z vv cc
      · simp only [if_pos (show b2 false = 0 from rfl)]
        exact ⟨_, _, rfl, rfl, hO1⟩
      · have hd := re_pcM hM1 T
        simp only [if_neg (show ¬ b2 true = 0 by decide)]
        exact ⟨_, _, rfl, rfl, hO1.keep hd.1 hd.2⟩
  · have g' : ¬ m1 0 15 = 0 := by rw [hM1.2.2.2.2.1]; exact g
    simp only [if_neg g, if_neg g']
    exact ⟨_, _, rfl, rfl, hO1⟩
/-- what a stop leaves -/
def re_U (N : Nat) (th : Int32) (c m : ZS) : Prop := re_M N c m ∧ c 0 18 = 0 ∧ c 0 20 = 1 ∧ c 0 10 = 0 ∧ c 0 22 = 0 ∧ m 0 19 = 0 ∧ m 0 0 = th
set_option maxRecDepth 100000 in
theorem re_control {N f : Nat} {th : Int32} {c m : ZS} (hO : re_O N f th c m) (h0 : c 0 10 = 0) (h22 : c 0 22 = 0) {q : Nat} (hq : q < 5) (e28 : c 0 28 = nI q) : ∃ c' m', f_P_control c = some c' ∧ f_M_returns m (nI q) = some m' ∧ (re_O N f th c' m' ∨ re_U N th c' m') := by
  have hc : q = 0 ∨ q = 1 ∨ q = 2 ∨ q = 3 ∨ q = 4 := by omega
  simp only [f_P_control, f_M_returns, zs_nm, e28]
  rcases hc with rfl | rfl | rfl | rfl | rfl
  · simp only [if_neg (show ¬ nI 0 = 1 by decide), if_neg (show ¬ nI 0 = 2 by decide), if_neg (show ¬ nI 0 = 3 by decide), if_neg (show ¬ nI 0 = 4 by decide)]
    exact ⟨_, _, rfl, rfl, Or.inl hO⟩
  · simp only [if_pos (show nI 1 = 1 by decide)]
    obtain ⟨v, c1, m1, hv, f1, f2, hM1, hK1, -, -, -⟩ := re_pop (s := 2) hO.1 h0 (by decide)
    have f1' : f_Q_pop c 2 = some (nI v, c1) := f1
    have f2' : f_M_pop m 2 = some (nI v, m1) := f2
    have hO1 := hO.keep hM1 hK1
    simp only [f_P_comeBack, f1', f2', Option.bind_some, zs_nm, f_M_returns_27, re_up1, re_bS]
    by_cases g : c1 0 10 = 0
    · have g' : m1 0 15 = 0 := by rw [hM1.2.2.2.2.1, g]
      have hd := re_pcM hM1 (nI v)
      simp only [if_pos g, if_pos g']
      exact ⟨_, _, rfl, rfl, Or.inl (hO1.keep hd.1 hd.2)⟩
    · have g' : ¬ m1 0 15 = 0 := by rw [hM1.2.2.2.2.1]; exact g
      simp only [if_neg g, if_neg g']
      exact ⟨_, _, rfl, rfl, Or.inl hO1⟩
  · simp only [if_neg (show ¬ nI 2 = 1 by decide), if_pos (show nI 2 = 2 by decide)]
    obtain ⟨v, c1, m1, hv, f1, f2, hM1, hK1, -, -, -⟩ := re_pop (s := 1) hO.1 h0 (by decide)
    have f1' : f_Q_pop c 1 = some (nI v, c1) := f1
    have f2' : f_M_pop m 1 = some (nI v, m1) := f2
    have hO1 := hO.keep hM1 hK1
    simp only [f_P_comeBackFromException, f1', f2', Option.bind_some, zs_nm, f_P_comeBackFromException_31, f_M_returns_67, re_bS]
    by_cases g : c1 0 10 = 0
    · obtain ⟨w, c2, m2, hw, f3, f4, hM2, hK2, -, -, -⟩ := re_pop (s := 2) hM1 g (by decide)
      have f3' : f_Q_pop c1 2 = some (nI w, c2) := f3
      have f4' : f_M_pop m1 2 = some (nI w, m2) := f4
      have hO2 := hO1.keep hM2 hK2
      simp only [if_pos g, f3', f4', Option.bind_some]
      by_cases g2 : c2 0 10 = 0
      · have g2' : m2 0 15 = 0 := by rw [hM2.2.2.2.2.1, g2]
        have hd := re_pcM hM2 (nI w)
        obtain ⟨c3, m3, k1, k2, hM3, hK3, -, -⟩ := re_chgM hd.1 (nI v)
        simp only [if_pos g2, if_pos g2', k1, k2, Option.bind_some]
        exact ⟨_, _, rfl, rfl, Or.inl ((hO2.keep hd.1 hd.2).keep hM3 hK3)⟩
      · have g2' : ¬ m2 0 15 = 0 := by rw [hM2.2.2.2.2.1]; exact g2
        simp only [if_neg g2, if_neg g2']
        exact ⟨_, _, rfl, rfl, Or.inl hO2⟩
    · have g' : ¬ m1 0 15 = 0 := by rw [hM1.2.2.2.2.1]; exact g
      simp only [if_neg g, re_mpop0 g', Option.bind_some, if_neg g']
      exact ⟨_, _, rfl, rfl, Or.inl hO1⟩
  · simp only [if_neg (show ¬ nI 3 = 1 by decide), if_neg (show ¬ nI 3 = 2 by decide), if_pos (show nI 3 = 3 by decide)]
    obtain ⟨v, c1, m1, hv, f1, f2, hM1, hK1, -, -, -, -⟩ := re_fetch hO.1 h0
    have hO1 := hO.keep hM1 hK1
    simp only [f_P_stop, f1, f2, Option.bind_some, zs_nm, f_M_returns_97, re_bS]
    by_cases g : c1 0 10 = 0
    · have g' : m1 0 15 = 0 := by rw [hM1.2.2.2.2.1, g]
      obtain ⟨c2, m2, k1, k2, hM2, hK2, k0, -⟩ := re_chgM hM1 (nI v)
      have hO2 := hO1.keep hM2 hK2
      simp only [if_pos g, if_pos g', k1, k2, Option.bind_some]
      refine ⟨_, _, rfl, rfl, Or.inr ?_⟩
      have k22 : c2 0 22 = 0 := (hK2.1 22 (by decide)).trans ((hK1.1 22 (by decide)).trans h22)
      have k10 : c2 0 10 = 0 := k0.trans g
      have k19 := hO2.w k22
      obtain ⟨⟨hP, hF, hD, hX, hT⟩, x2, x3, x4, x5, x6, x7⟩ := hO2
      refine ⟨⟨hP, hF, hD, ⟨hX.1, hX.2.1, hX.2.2.1, hX.2.2.2.1, Or.inr rfl, ?_⟩, hT⟩, x2.1, rfl, k10, k22, k19, x6⟩
      show (1 : Int32) = if c2 0 18 = 0 then (if (1 : Int32) = 0 then 0 else 1) else 2
      rw [if_pos x2.1]; rfl
    · have g' : ¬ m1 0 15 = 0 := by rw [hM1.2.2.2.2.1]; exact g
      simp only [if_neg g, if_neg g']
      exact ⟨_, _, rfl, rfl, Or.inl hO1⟩
  · simp only [if_neg (show ¬ nI 4 = 1 by decide), if_neg (show ¬ nI 4 = 2 by decide), if_neg (show ¬ nI 4 = 3 by decide), if_pos (show nI 4 = 4 by decide)]
    obtain ⟨t, a, k, x, n, z, vv, cc, r0, r1, r2, r3, r4, r5, r6, r7, r8⟩ := id hO.1.2.1
    simp only [(re_hasC r0).2.1, Option.bind_some, r7, f_P_control_75, zs_nm]
    cases vv
    · simp only [if_pos (show b2 false = 0 from rfl), if_neg (show ¬ b2 false = 1 by decide)]
      refine ⟨c, m, ?_, rfl, Or.inl hO⟩
      rw [← h22, re_up1]
    · simp only [if_neg (show ¬ b2 true = 0 by decide), if_pos (show b2 true = 1 from rfl)]
      exact ⟨_, _, rfl, rfl, Or.inl (hO.pend (e := 7) (by decide))⟩
set_option maxRecDepth 100000 in
theorem re_opZ {N f : Nat} {th : Int32} {c m : ZS} {op s r md q : Nat} (hO : re_O N f th c m) (h0 : c 0 10 = 0) (h22 : c 0 22 = 0) (hop : op = 17 ∨ op = 21 ∨ op = 24 ∨ op = 25 ∨ op = 28) (hs : s < 4) (hr : r < 8) (hmd : md < 8) (hq : q < 8) (e24 : c 0 24 = nI op) (e25 : c 0 25 = nI s) (e26 : c 0 26 = nI r) (e27 : c 0 27 = nI md) (e28 : c 0 28 = nI q) (hl : re_leg op s r md q = true) : ∃ c' m', f_P_execute c = some c' ∧ f_M_does m (nI op) (nI s) (nI r) (nI md) (nI q) = some m' ∧ (re_O N f th c' m' ∨ re_U N th c' m') := by
  obtain ⟨u, hu, eu⟩ := re_of32 (c 2 r)
  rw [re_exC (V := c 0 33) (show op < 32 by omega) hr e24 e25 e26 eu rfl]
  rcases hop with rfl | rfl | rfl | rfl | rfl
  · obtain ⟨hs3, -⟩ := re_lgf (op := 17) (by decide) hs hmd hq (by decide) (re_lgr hl (by decide))
    obtain ⟨c', m', k1, k2, hM', hK'⟩ := re_shift hO.1 h0 hs3 hr hmd hq hu e25 e26 e27 e28 eu
    refine ⟨c', m', ?_, ?_, Or.inl (hO.keep hM' hK')⟩
    · show (f_P_shift c (nI u)).bind _ = _
      rw [k1]; rfl
    · show (f_M_shifts m (nI s) (nI r) (nI md) (nI q)).bind _ = _
      rw [k2]; rfl
  · have hk : s * 8 + r < 16 := by
      unfold re_leg at hl
      rw [if_pos rfl] at hl
      exact of_decide_eq_true hl
    obtain ⟨c', m', k1, k2, k3⟩ := re_branch hO h0 hk e25 e26
    refine ⟨c', m', ?_, ?_, Or.inl k3⟩
    · show (f_P_branch c).bind _ = _
      rw [k1]; rfl
    · show (f_M_branches m ((nI s * 8) + nI r)).bind _ = _
      rw [k2]; rfl
  · have hk : q < 5 := by
      unfold re_leg at hl
      rw [if_neg (by decide), if_pos rfl] at hl
      exact of_decide_eq_true hl
    obtain ⟨c', m', k1, k2, k3⟩ := re_control hO h0 h22 hk e28
    refine ⟨c', m', ?_, ?_, k3⟩
    · show (f_P_control c).bind _ = _
      rw [k1]; rfl
    · show (f_M_returns m (nI q)).bind _ = _
      rw [k2]; rfl
  · have ev : (32 + nI q) + (8 * (zo_irem (nI md) 2)) = nI (32 + q + 8 * (md % 2)) := by
      have e1 : zo_irem (nI md) 2 = nI (md % 2) := pk_rem (d := 2) (by omega) (by decide) (by decide)
      rw [e1, show (32 : Int32) = nI 32 from rfl, show (8 : Int32) = nI 8 from rfl, nI_add, pk_mul, nI_add]
    refine ⟨_, _, ?_, ?_, Or.inl (hO.pend (e := 32 + q + 8 * (md % 2)) (by omega))⟩
    · show some (zs_up c 0 22 ((32 + (c 0 28)) + (8 * (zo_irem (c 0 27) 2)))) = _
      rw [e28, e27, ev]
    · show some (zs_up m 0 19 ((32 + nI q) + (8 * (zo_irem (nI md) 2)))) = _
      rw [ev]
  · have ei : ¬ (nI q < 0 ∨ 8 ≤ q) := by have := re_ri hq; rwa [re_cl hq] at this
    have tm0 : nI md = 0 ↔ md = 0 := re_inj (a := md) (b := 0) (by omega) (by decide)
    have hC : re_et c 28 s r u (c 0 33) = f_P_exchangeOther c := by
      show (f_P_exchangeOther c).bind _ = _
      cases f_P_exchangeOther c <;> rfl
    rw [hC]
    simp only [f_P_exchangeOther, f_M_does, f_M_does_104, zs_nm, e28, e27, re_r8 hq, re_cl hq, if_neg ei, tm0]
    simp only [if_neg (show ¬ nI 28 = 17 by decide), if_neg (show ¬ nI 28 = 21 by decide), if_neg (show ¬ nI 28 = 24 by decide), if_neg (show ¬ nI 28 = 25 by decide), if_pos (show nI 28 = 28 by decide)]
    obtain ⟨⟨hP, hF, hD, hX, hT⟩, x2, x3, x4, x5, x6, x7⟩ := id hO
    by_cases g : md = 0
    · simp only [if_pos g]
      refine ⟨_, _, rfl, rfl, Or.inl ⟨⟨⟨hP.1, hP.2.1, hP.2.2.1, hP.2.2.1 q, hP.2.2.2.2⟩, hF, hD, hX, hT⟩, x2, x3, x4, x5, x6, x7⟩⟩
    · simp only [if_neg g]
      rw [hP.2.2.2.1]
      have hd := re_aput hO.1 q (c 0 13)
      exact ⟨_, _, rfl, rfl, Or.inl (hO.keep hd.1 hd.2)⟩
