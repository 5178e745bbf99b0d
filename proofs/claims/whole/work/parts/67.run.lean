/-! A step, and a run of steps. -/
set_option maxRecDepth 100000 in
theorem re_goOn {N : Nat} {c m : ZS} (hB : re_B N c m) (g18 : c 0 18 = 0) : ∃ (b : Bool) (c' m' : ZS), (if c 0 20 = 0 then (f_G_has c 32768).bind fun p5 => (f_P_begin p5.2).bind fun s6 => re_go p5.1 s6 else some (0, c)) = some (b2 b, c') ∧ f_M_step_64 m 0 = some (b2 b, m') ∧ re_B N c' m' ∧ m' 0 0 = m 0 0 := by
  obtain ⟨t, a, k, x, n, z, v, cc, r0, r1, r2, r3, r4, r5, r6, r7, r8⟩ := id hB.2.1
  simp only [f_M_step_64, if_pos (show (0 : Int32) ≤ 0 by decide)]
  by_cases g20 : c 0 20 = 0
  · have n11 : ¬ m 0 11 = 1 := by
      rw [hB.2.2.2.1.2.2.2.2.2, if_pos g18, if_pos g20]; decide
    obtain ⟨c', m', j1, j2, j3, j4⟩ := re_instr hB g18 g20 r1
    rw [if_pos g20, if_neg n11, (re_hasC r0).2.2.2.2.2, j2]
    simp only [Option.bind_some]
    refine ⟨true, c', m', ?_, rfl, j3, j4⟩
    rw [j1]; rfl
  · have n11 : m 0 11 = 1 := by
      rw [hB.2.2.2.1.2.2.2.2.2, if_pos g18, if_neg g20]
    rw [if_neg g20, if_pos n11]
    exact ⟨false, c, m, rfl, rfl, hB, rfl⟩
set_option maxRecDepth 100000 in
theorem re_inter {N : Nat} {c m : ZS} (hB : re_B N c m) (g18 : c 0 18 = 0) {l : Nat} {L E : Int32} (hl : l = 2 ∨ l = 4) (hL : L = nI l) (hE : 24 + L = nI (24 + l)) : ∃ (c' m' : ZS), ((f_E_raise (zs_up c 0 20 0) (24 + L) ((zs_up c 0 20 0) 0 14) 0).bind fun s14 => some ((1 : Int32), s14)) = some (1, c') ∧ f_M_step_64 m L = some (1, m') ∧ re_B N c' m' ∧ m' 0 0 = m 0 0 := by
  obtain ⟨hP2, hF2, hD2, hX2, -⟩ := id hB
  have hE' : re_E N (zs_up c 0 20 0) (zs_up (zs_up m 0 11 0) 0 18 0) (24 + l) 0 := by
    refine ⟨hP2, hF2.keep rfl (fun j h1 h2 => ?_), hD2.keep (fun j hj => re_g1 (by omega)) (fun j hj => ?_) (fun _ => rfl) (fun _ => rfl), ⟨hX2.1, hX2.2.1, hX2.2.2.1, hX2.2.2.2.1, Or.inl rfl, ?_⟩, g18, by omega, by omega, by decide, rfl, fun hh => by omega⟩
    · rw [re_g1 (by omega), re_g1 (by omega)]
    · rw [re_g1 (by omega), re_g1 (by omega)]
    · show (0 : Int32) = if c 0 18 = 0 then (if (0 : Int32) = 0 then 0 else 1) else 2
      rw [if_pos g18, if_pos rfl]
  obtain ⟨A, hA, eA⟩ := re_of32 (c 0 14)
  have hLL : ∀ k : Fin 8, ∃ k', re_L (24 + l) L k k' := by
    intro k
    rcases hl with rfl | rfl
    · exact ⟨2, Or.inr (Or.inl ⟨rfl, hL, rfl⟩)⟩
    · exact ⟨4, Or.inr (Or.inr ⟨rfl, hL, rfl⟩)⟩
  obtain ⟨c', m', j1, j2, j3, -, j4, -, -, -⟩ := re_raise hE' hA hLL
  refine ⟨c', m', ?_, ?_, j3, j4⟩
  · have z0 : (0 : Int32) = nI 0 := rfl
    have eA' : (zs_up c 0 20 0) 0 14 = nI A := eA
    rw [hE, eA']
    conv => lhs; rw [show f_E_raise (zs_up c 0 20 0) (nI (24 + l)) (nI A) 0 = some c' from j1]
    rfl
  · have n0 : ¬ L ≤ 0 := by rw [hL]; rcases hl with rfl | rfl <;> decide
    have eA' : (zs_up (zs_up m 0 11 0) 0 18 0) 0 2 = nI A := hP2.2.2.2.2.trans eA
    simp only [f_M_step_64, if_neg n0, zs_nm]
    rw [hE, eA', j2]; rfl
set_option maxRecDepth 100000 in
theorem re_one {F : Option (Int32 × ZS)} {c : ZS} (h : F = some (1, c)) : F = some (b2 true, c) := h
/-- the system's step behind its devices, and the reference's -/
noncomputable def re_sC (s2 : ZS) : Option (Int32 × ZS) :=
  (f_D_level s2 ).bind fun p3 =>
  (f_G_levelMask p3.2 ).bind fun p4 =>
  if p3.1 ≤ p4.1 then
    if (p4.2 0 20) = 0 then
      (f_G_has p4.2 32768).bind fun p5 =>
      (f_P_begin p5.2 ).bind fun s6 => re_go p5.1 s6
    else
      some (0, p4.2)
  else
    (f_E_raise (zs_up p4.2 0 20 0) (24 + p3.1) ((zs_up p4.2 0 20 0) 0 14) 0).bind fun s14 =>
    some (1, s14)
set_option maxRecDepth 100000 in
theorem re_sCe (c : ZS) : f_P_step c = if (zs_up c 0 19 (c 0 19 + 1)) 0 18 = 0 then (f_D_step (zs_up c 0 19 (c 0 19 + 1))).bind fun s2 => re_sC s2 else some (0, zs_up c 0 19 (c 0 19 + 1)) := by
  unfold f_P_step re_sC re_go zs_nm
  rfl
set_option maxRecDepth 100000 in
theorem re_sC1 {c : ZS} {L K : Int32} (h1 : f_D_level c = some (L, c)) (h2 : f_G_levelMask c = some (K, c)) (h : L ≤ K) : re_sC c = if c 0 20 = 0 then (f_G_has c 32768).bind fun p5 => (f_P_begin p5.2).bind fun s6 => re_go p5.1 s6 else some (0, c) := by
  unfold re_sC
  rw [h1, Option.bind_some, h2, Option.bind_some, if_pos h]
set_option maxRecDepth 100000 in
theorem re_sC2 {c : ZS} {L K : Int32} (h1 : f_D_level c = some (L, c)) (h2 : f_G_levelMask c = some (K, c)) (h : ¬ L ≤ K) : re_sC c = (f_E_raise (zs_up c 0 20 0) (24 + L) ((zs_up c 0 20 0) 0 14) 0).bind fun s14 => some (1, s14) := by
  unfold re_sC
  rw [h1, Option.bind_some, h2, Option.bind_some, if_neg h]
noncomputable def re_sM (m : ZS) : Option (Int32 × ZS) := if m 0 26 = (-1) then f_M_step_44 m else if 4 ≤ m 0 5 then f_M_step_44 m else f_M_step_64 m 4
set_option maxRecDepth 100000 in
theorem re_sMe (m : ZS) : f_M_step m = if (zs_up m 0 12 (m 0 12 + 1)) 0 11 = 2 then some (0, zs_up m 0 12 (m 0 12 + 1)) else (f_M_devices (zs_up m 0 12 (m 0 12 + 1))).bind fun s2 => re_sM s2 := by
  unfold f_M_step re_sM zs_nm
  rfl
set_option maxRecDepth 100000 in
theorem re_s44 {m : ZS} (h : m 0 25 = 0 ∨ 2 ≤ m 0 5) : f_M_step_44 m = f_M_step_64 m 0 := by
  unfold f_M_step_44 f_M_step_63
  by_cases g : m 0 25 = 0
  · rw [if_pos g]
  · rw [if_neg g, if_pos (h.resolve_left g)]
set_option maxRecDepth 100000 in
theorem re_s44' {m : ZS} (h : ¬ m 0 25 = 0) (h2 : ¬ 2 ≤ m 0 5) : f_M_step_44 m = f_M_step_64 m 2 := by
  unfold f_M_step_44
  rw [if_neg h, if_neg h2]
set_option maxRecDepth 100000 in
/-- behind the devices -/
theorem re_step2 {N : Nat} {c2 m2 : ZS} (hB2 : re_B N c2 m2) (g18 : c2 0 18 = 0) : ∃ (b : Bool) (c' m' : ZS), re_sC c2 = some (b2 b, c') ∧ re_sM m2 = some (b2 b, m') ∧ re_B N c' m' ∧ m' 0 0 = m2 0 0 := by
  obtain ⟨hP, hF2, hD2, hX, hT⟩ := id hB2
  obtain ⟨t, a, k, x, n, z, v, cc, r0, r1, r2, r3, r4, r5, r6, r7, r8⟩ := id hF2
  have hlm : f_G_levelMask c2 = some (nI k.val, c2) := by
    unfold f_G_levelMask
    rw [r0, re_pkK]
  have hk8 : k.val < 8 := k.isLt
  have l2 : (2 : Int32) ≤ nI k.val ↔ 2 ≤ k.val := nI_leI (a := 2) (by decide) (by omega)
  have l4 : (4 : Int32) ≤ nI k.val ↔ 4 ≤ k.val := nI_leI (a := 4) (by decide) (by omega)
  have l0 : (0 : Int32) ≤ nI k.val := nI_pos' (by omega)
  have goOn := re_goOn hB2 g18
  obtain ⟨d3, d4, d5, d6, d7⟩ := hD2
  by_cases c4 : c2 0 4 = 0
  · have m26 : m2 0 26 = -1 := by
      rcases d7.2.1 with y | ⟨y, -⟩
      · exact y.2
      · rw [c4] at y; exact absurd y (by decide)
    have hM : re_sM m2 = f_M_step_44 m2 := by unfold re_sM; rw [if_pos m26]
    by_cases c3 : c2 0 3 = 0
    · have m25 : m2 0 25 = 0 := d6.1.trans c3
      have hlv : f_D_level c2 = some (0, c2) := by unfold f_D_level; rw [if_pos c4, if_pos c3]
      rw [hM, re_s44 (Or.inl m25), re_sC1 hlv hlm l0]
      exact goOn
    · have m25 : ¬ m2 0 25 = 0 := by rw [d6.1]; exact c3
      have hlv : f_D_level c2 = some (2, c2) := by unfold f_D_level; rw [if_pos c4, if_neg c3]
      by_cases y : 2 ≤ k.val
      · rw [hM, re_s44 (Or.inr (by rw [r3]; exact l2.mpr y)), re_sC1 hlv hlm (l2.mpr y)]
        exact goOn
      · obtain ⟨c', m', j1, j2, j3, j4⟩ := re_inter (E := 0) hB2 g18 (l := 2) (L := 2) (Or.inl rfl) (by decide) (by decide)
        rw [hM, re_s44' m25 (by rw [r3]; exact fun hh => y (l2.mp hh)), re_sC2 hlv hlm (fun hh => y (l2.mp hh))]
        exact ⟨true, c', m', re_one j1, re_one j2, j3, j4⟩
  · have m26 : ¬ m2 0 26 = -1 := by
      rcases d7.2.1 with ⟨y, -⟩ | ⟨-, y2, y3⟩
      · exact absurd y c4
      · rw [y2]; exact re_nm y3
    have hlv : f_D_level c2 = some (4, c2) := by unfold f_D_level; rw [if_neg c4]
    by_cases y : 4 ≤ k.val
    · have hM : re_sM m2 = f_M_step_64 m2 0 := by
        unfold re_sM
        rw [if_neg m26, if_pos (by rw [r3]; exact l4.mpr y)]
        exact re_s44 (Or.inr (by rw [r3]; exact l2.mpr (by omega)))
      rw [hM, re_sC1 hlv hlm (l4.mpr y)]
      exact goOn
    · have hM : re_sM m2 = f_M_step_64 m2 4 := by
        unfold re_sM
        rw [if_neg m26, if_neg (by rw [r3]; exact fun hh => y (l4.mp hh))]
      obtain ⟨c', m', j1, j2, j3, j4⟩ := re_inter (E := 0) hB2 g18 (l := 4) (L := 4) (Or.inr rfl) (by decide) (by decide)
      rw [hM, re_sC2 hlv hlm (fun hh => y (l4.mp hh))]
      exact ⟨true, c', m', re_one j1, re_one j2, j3, j4⟩
set_option maxRecDepth 100000 in
theorem re_step {N : Nat} {c m : ZS} (h : re_B N c m) (hN : N ≤ 5000) : ∃ (b : Bool) (c' m' : ZS), f_P_step c = some (b2 b, c') ∧ f_M_step m = some (b2 b, m') ∧ re_B (N + 1) c' m' ∧ m' 0 0 = m 0 0 := by
  obtain ⟨hP, hF, hD, hX, hT⟩ := id h
  have hX1 : re_X (zs_up c 0 19 (c 0 19 + 1)) (zs_up m 0 12 (m 0 12 + 1)) := by
    obtain ⟨x1, x2, x3, x4, x5, x6⟩ := hX
    refine ⟨x1, x2, ?_, x4, x5, x6⟩
    show m 0 12 + 1 = c 0 19 + 1
    rw [x3]
  have hB1 : re_B N (zs_up c 0 19 (c 0 19 + 1)) (zs_up m 0 12 (m 0 12 + 1)) := by
    refine ⟨hP, hF, hD.keep (fun k hk => re_g1 (by omega)) (fun k hk => re_g1 (by omega)) (fun _ => rfl) (fun _ => rfl), hX1, hT⟩
  rw [re_sCe, re_sMe]
  have m00 : (zs_up m 0 12 (m 0 12 + 1)) 0 0 = m 0 0 := rfl
  generalize zs_up c 0 19 (c 0 19 + 1) = c1 at hB1 ⊢
  generalize zs_up m 0 12 (m 0 12 + 1) = m1 at hB1 m00 ⊢
  clear hX1 hP hF hD hX hT h
  obtain ⟨hP, hF, hD, hX, hT⟩ := id hB1
  by_cases g : c1 0 18 = 0
  · have g11 : ¬ m1 0 11 = 2 := by
      rw [hX.2.2.2.2.2, if_pos g]
      split <;> decide
    rw [if_pos g, if_neg g11]
    obtain ⟨c2, m2, d1, d2, hD2, k1, k2, k3, k4⟩ := re_dstep hD hN
    have hF2 : re_F c2 m2 := hF.keep (k1 15 (by decide)) (fun k _ h2 => k2 k (by omega))
    have hB2 : re_B (N + 1) c2 m2 := by
      refine ⟨⟨fun j => ?_, fun j => ?_, fun j => ?_, ?_, ?_⟩, hF2, hD2, hX.keep (fun k h1 h2 => k1 k (by omega)) (fun k h1 h2 => k2 k (by omega)), ?_⟩
      · rw [k4 1 j (by decide) (by decide), k3 1 j (by decide) (by decide)]; exact hP.1 j
      · rw [k4 2 j (by decide) (by decide), k3 2 j (by decide) (by decide)]; exact hP.2.1 j
      · rw [k4 3 j (by decide) (by decide), k3 3 j (by decide) (by decide)]; exact hP.2.2.1 j
      · rw [k2 1 (by decide), k1 13 (by decide)]; exact hP.2.2.2.1
      · rw [k2 2 (by decide), k1 14 (by decide)]; exact hP.2.2.2.2
      · rw [k2 15 (by decide)]; exact hT
    have g18 : c2 0 18 = 0 := (k1 18 (by decide)).trans g
    have m20 : m2 0 0 = m 0 0 := (k2 0 (by decide)).trans m00
    rw [d1, d2, Option.bind_some, Option.bind_some]
    obtain ⟨b, c', m', j1, j2, j3, j4⟩ := re_step2 hB2 g18
    exact ⟨b, c', m', j1, j2, j3, j4.trans m20⟩
  · have g11 : m1 0 11 = 2 := by rw [hX.2.2.2.2.2, if_neg g]
    rw [if_neg g, if_pos g11]
    exact ⟨false, c1, m1, rfl, rfl, hB1.mono (by omega), m00⟩
set_option maxRecDepth 100000 in
theorem re_runs {A : Nat} (hA : A ≤ 8) : ∀ (k i fuel N : Nat) (c m : ZS) (l : Int32), i + k = A → k < fuel → re_B N c m → N + k ≤ 5000 → m 0 0 = 0 → ∃ (c' m' : ZS) (l' : Int32), f_F_run_25 fuel c (nI A) l (nI i) = some (some l', c') ∧ f_M_run_24 fuel m (nI A) l (nI i) = some (l', m') ∧ re_B (N + k) c' m' ∧ m' 0 0 = 0 := by
  intro k
  induction k with
  | zero =>
    intro i fuel N c m l h1 h2 h3 h4 h5
    obtain ⟨f, rfl⟩ : ∃ f, fuel = f + 1 := ⟨fuel - 1, by omega⟩
    refine ⟨c, m, l, ?_, ?_, h3, h5⟩
    · rw [f_F_run_25, if_pos (nI_le (by omega) (by omega))]
    · rw [f_M_run_24, if_pos (nI_le (by omega) (by omega))]
  | succ k ih =>
    intro i fuel N c m l h1 h2 h3 h4 h5
    obtain ⟨f, rfl⟩ : ∃ f, fuel = f + 1 := ⟨fuel - 1, by omega⟩
    obtain ⟨b, c1, m1, s1, s2, hB1, m0⟩ := re_step h3 (by omega)
    have ih' := fun l' => ih (i + 1) f (N + 1) c1 m1 l' (by omega) (by omega) hB1 (by omega) (m0.trans h5)
    rw [f_F_run_25, f_M_run_24, if_neg (nI_ge (by omega) (by omega)), if_neg (nI_ge (by omega) (by omega)), if_pos h5, s1, s2]
    simp only [Option.bind_some, f_F_run_43, f_M_run_53, zs_nm, nI_1]
    have eN : N + 1 + k = N + (k + 1) := by omega
    cases b
    · obtain ⟨c', m', l', j1, j2, j3, j4⟩ := ih' l
      rw [if_pos (show b2 false = 0 from rfl), if_pos (show b2 false = 0 from rfl), Int32.add_zero]
      exact ⟨c', m', l', j1, j2, by rw [← eN]; exact j3, j4⟩
    · obtain ⟨c', m', l', j1, j2, j3, j4⟩ := ih' (l + 1)
      rw [if_neg (show ¬ b2 true = 0 by decide), if_neg (show ¬ b2 true = 0 by decide)]
      exact ⟨c', m', l', j1, j2, by rw [← eN]; exact j3, j4⟩
set_option maxRecDepth 100000 in
theorem re_run {N : Nat} {c m : ZS} (h : re_B N c m) (hN : N ≤ 4096) (a : Int32) : re_Wi (N + 8) (f_F_run c a) (f_M_run m a) := by
  unfold f_F_run f_M_run
  by_cases g1 : a < 1
  · rw [if_pos g1, if_pos g1]
    refine ⟨_, (0, zs_up m 0 0 1), rfl, ?_, Or.inl ⟨rfl, rfl⟩, (re_th (v := 1) h).mono (by omega)⟩
    have g2 : a ≤ 0 := by
      rw [Int32.lt_iff_toInt_lt, show (1 : Int32).toInt = 1 by decide] at g1
      rw [Int32.le_iff_toInt_le, show (0 : Int32).toInt = 0 by decide]; omega
    simp only [f_M_run_12, f_M_run_17, zs_nm]
    rw [f_M_run_24, if_pos g2]
  · rw [if_neg g1, if_neg g1]
    by_cases g8 : a ≤ 8
    · rw [if_pos g8, if_pos g8]
      obtain ⟨A, hA, rfl⟩ : ∃ A : Nat, A ≤ 8 ∧ a = nI A := by
        have hn : ¬ a < 0 := by
          rw [Int32.lt_iff_toInt_lt, show (1 : Int32).toInt = 1 by decide] at g1
          rw [Int32.lt_iff_toInt_lt, show (0 : Int32).toInt = 0 by decide]; omega
        obtain ⟨j, hj, rfl⟩ := nI_of hn
        exact ⟨j, (nI_leI (b := 8) hj (by decide)).mp g8, rfl⟩
      obtain ⟨c', m', l', j1, j2, j3, j4⟩ := re_runs hA A 0 20 N c (zs_up m 0 0 0) 0 (by omega) (by omega) (re_th (v := 0) h) (by omega) rfl
      simp only [f_M_run_17, zs_nm]
      exact ⟨(some l', c'), (l', m'), j1, j2, Or.inr ⟨j4, rfl⟩, j3.mono (by omega)⟩
    · rw [if_neg g8, if_neg g8]
      refine ⟨_, (0, zs_up m 0 0 1), rfl, ?_, Or.inl ⟨rfl, rfl⟩, (re_th (v := 1) h).mono (by omega)⟩
      have g2 : ¬ a ≤ 0 := by
        rw [Int32.le_iff_toInt_le, show (8 : Int32).toInt = 8 by decide] at g8
        rw [Int32.le_iff_toInt_le, show (0 : Int32).toInt = 0 by decide]; omega
      simp only [f_M_run_12, f_M_run_17, zs_nm]
      rw [f_M_run_24, if_neg g2, if_neg (show ¬ (zs_up m 0 0 1) 0 0 = 0 by rw [re_g0]; decide)]
