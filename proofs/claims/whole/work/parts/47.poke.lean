/-! poke, reset; the relation within a step, and fetch, push, pop over it. -/
theorem re_poke {N : Nat} {c m : ZS} (h : re_B N c m) (a b : Int32) : re_Wb N (f_F_poke c a b) (f_M_poke m a b) := by
  obtain ⟨n, hn, rfl⟩ := re_of32 a
  have bad : re_B N c (zs_up m 0 0 1) := re_th h
  obtain ⟨⟨p1, p2, p3, p4, p5⟩, hF, hD, hX, h0⟩ := id h
  have t1 : ¬ (zs_up m 0 0 1) 0 0 ≤ 0 := by show ¬ (1 : Int32) ≤ 0; decide
  have t0 : (zs_up m 0 0 0) 0 0 ≤ 0 := by show (0 : Int32) ≤ 0; decide
  unfold re_Wb
  simp only [f_F_poke, f_M_poke, f_M_poke_19, f_M_poke_24, zs_nm, re_noWord hn, re_isWord hn, Option.bind_some]
  by_cases hw : n ≤ 1022 ∧ n % 2 = 0
  · simp only [if_pos hw, if_true, if_neg (show ¬ (1 : Int32) = 0 by decide)]
    by_cases e0 : b < 0
    · simp only [if_pos e0, if_neg t1]; exact ⟨_, _, rfl, rfl, Or.inl ⟨rfl, rfl⟩, bad⟩
    simp only [if_neg e0]
    by_cases e1 : b ≤ 65535
    · simp only [if_pos e1, if_pos t0]
      obtain ⟨x, hx, rfl⟩ := nI_of e0
      have hx2 : x ≤ 65535 := (nI_leI hx (show 65535 < 2 ^ 31 by decide)).mp e1
      obtain ⟨c', f1, f2, f3, f4⟩ := re_wrB (n := n) 2 20 c (nI x) x (by omega) (by omega) (by omega) (by rw [pk_tn (by omega)])
      have hok : re_ok n 1 = 1 := re_ok1 (by omega) (by omega)
      have hlt : nI n < 1024 := by show nI n < nI 1024; rw [nI_ltI (by omega) (by decide)]; omega
      have fw : f_B_write c (nI n) 1 (nI x) = some c' := by
        show f_B_write c (nI n) (nI 1) (nI x) = some c'
        simp only [f_B_write, zs_nm, re_shs 1 (by decide)]
        rw [re_fails hn (by decide) (Or.inl rfl), hok]
        simp only [if_neg (show ¬ (1 : Nat) = 0 by decide), Option.bind_some, if_true, if_pos hlt]
        exact f1
      have es : zo_shr (nI x) 8 = nI (x / 256) := pk_shrN (by omega) (8 &&& 31) 8 (by decide)
      have ea : nI x &&& 255 = nI (x % 256) := re_andW (s := 0) (by decide) x
      rw [fw, if_neg (nI_in (show n < 1024 by omega) (by decide)), nI_1, if_neg (nI_in (show n + 1 < 1024 by omega) (by decide)), nI_clamp (by omega), nI_clamp (by omega), es, ea]
      refine ⟨_, _, rfl, rfl, Or.inr ⟨rfl, rfl, Or.inr rfl⟩, ⟨fun j => ?_, fun j => ?_, fun j => ?_, ?_, ?_⟩, ?_, ?_, ?_, h0⟩
      · show (if j = n + 1 then nI (x % 256) else if j = n then nI (x / 256) else m 1 j) = c' 1 j &&& 255
        by_cases g1 : j = n + 1
        · rw [if_pos g1, g1, f2 1 (by omega)]; simp
        rw [if_neg g1]
        by_cases g2 : j = n
        · have := f2 0 (by omega)
          rw [Nat.add_zero] at this
          rw [if_pos g2, g2, this]
          congr 1
          simp
          omega
        · rw [if_neg g2, f3 j (by omega), p1]
      · show m 2 j = c' 2 j; rw [f4 2 j (by decide), p2]
      · show m 3 j = c' 3 j; rw [f4 3 j (by decide), p3]
      · show m 0 1 = c' 0 13; rw [f4 0 13 (by decide), p4]
      · show m 0 2 = c' 0 14; rw [f4 0 14 (by decide), p5]
      · obtain ⟨q1, q2, q3, q4, q5, q6, q7, q8, r0, r1⟩ := hF
        exact ⟨q1, q2, q3, q4, q5, q6, q7, q8, by rw [← r0]; exact f4 0 15 (by decide), r1⟩
      · exact hD.keep (fun k _ => f4 0 k (by decide)) (fun k hk => by simp [zs_up]; omega) (fun j => f4 4 j (by decide)) (fun j => rfl)
      · exact hX.keep (fun k _ _ => f4 0 k (by decide)) (fun k h1 h2 => by simp [zs_up]; omega)
    · simp only [if_neg e1, if_neg t1]; exact ⟨_, _, rfl, rfl, Or.inl ⟨rfl, rfl⟩, bad⟩
  · simp only [if_neg hw, if_true, if_neg (show ¬ (1 : Int32) = 0 by decide), if_neg t1]
    exact ⟨_, _, rfl, rfl, Or.inl ⟨rfl, rfl⟩, bad⟩
theorem re_pkst : ∀ (t a : Bool) (k : Fin 8) (x n z v c : Bool), re_pk t a k x n z v c &&& 42783 = re_pk t a k x n z v c := by decide +kernel
theorem re_above {c m : ZS} (hP : re_P c m) {t a : Bool} {k : Fin 8} {x n z v cc : Bool} (h15 : c 0 15 = re_pk t a k x n z v cc) (h4 : m 0 4 = b2 a) (t' : Bool) (k' : Fin 8) (x' n' z' v' cc' : Bool) : ∃ c' m', f_G_changeStatus c (re_pk t' true k' x' n' z' v' cc') = some c' ∧ f_M_setAbove m 1 = some m' ∧ re_P c' m' ∧ c' 0 15 = re_pk t' true k' x' n' z' v' cc' ∧ re_kC c c' ∧ (∀ k, k ≠ 1 → k ≠ 4 → m' 0 k = m 0 k) ∧ m' 0 4 = 1 ∧ (∀ j, m' 4 j = m 4 j) := by
  obtain ⟨p1, p2, p3, p4, p5⟩ := hP
  simp only [f_G_changeStatus, f_G_changeStatus_18, f_M_setAbove, f_M_setAbove_32, zs_nm, re_7, re_7c, if_false, re_pkst]
  rw [h15, h4]
  by_cases hs : (re_pk t' true k' x' n' z' v' cc').toBitVec.getLsbD 13 = a
  · have ha : a = true := by rw [← hs, re_pk13]
    rw [if_pos ((re_sw _ t a k x n z v cc).mpr hs), if_pos (show (1 : Int32) = b2 a by rw [ha]; rfl), if_true]
    refine ⟨_, _, rfl, rfl, ⟨p1, p2, p3, p4, p5⟩, rfl, ⟨fun i g1 g2 => ?_, fun j => rfl, fun j => rfl, fun j => rfl⟩, fun i g1 g2 => ?_, rfl, fun j => rfl⟩
    · simp [zs_up, g1, g2]
    · simp [zs_up, g1, g2]
  · have ha : a = false := by rw [re_pk13] at hs; cases a; rfl; exact absurd rfl hs
    rw [if_neg (fun e => hs ((re_sw _ t a k x n z v cc).mp e)), if_neg (show ¬ (1 : Int32) = b2 a by rw [ha]; decide), if_neg (show ¬ (1 : Int32) = 0 by decide)]
    refine ⟨_, _, rfl, rfl, ⟨p1, p2, fun j => ?_, ?_, p5⟩, rfl, ⟨fun i g1 g2 => ?_, fun j => rfl, fun j => rfl, fun j => rfl⟩, fun i g1 g2 => ?_, rfl, fun j => rfl⟩
    · show (if j = 7 then m 0 1 else m 3 j) = if j = 7 then c 0 13 else c 3 j
      rw [p4, p3]
    · show m 3 7 = c 3 7
      exact p3 7
    · simp [zs_up, g1, g2]
    · simp [zs_up, g1, g2]
theorem re_pkrs : ∀ (t a : Bool) (k : Fin 8) (x n z v c : Bool), ((re_pk t a k x n z v c ||| 8192) ||| 1792) &&& (-32769) = re_pk false true 7 x n z v c := by decide +kernel
theorem re_reset {N : Nat} {c m : ZS} (h : re_B N c m) : re_Cc N (f_F_reset c) (f_M_reset m) := by
  obtain ⟨hP, ⟨t, a, k, x, n, z, v, cc, r0, r1, r2, r3, r4, r5, r6, r7, r8⟩, hD, ⟨x1, x2, x3, x4, x5, x6⟩, h0⟩ := id h
  have g15 : (zs_up (zs_up c 0 20 0) 0 18 0) 0 15 = re_pk t a k x n z v cc := r0
  obtain ⟨c1, m1, f1, f2, hP1, e15, kC, kM, k4, kR⟩ := re_above (c := zs_up (zs_up c 0 20 0) 0 18 0) (m := zs_up (zs_up m 0 0 0) 0 11 0) hP g15 r2 false 7 x n z v cc
  have hD1 : re_D N c1 m1 := hD.keep (fun k hk => by rw [kC.1 k (by omega) (by omega)]; simp [zs_up, show k ≠ 20 by omega, show k ≠ 18 by omega]) (fun k hk => by rw [kM k (by omega) (by omega)]; simp [zs_up, show k ≠ 0 by omega, show k ≠ 11 by omega]) (fun j => kC.2.2.2 j) (fun j => kR j)
  have hP1' : ∀ j, (zs_up (zs_up (zs_up m1 0 3 0) 0 5 7) 0 15 0) 1 j = c1 1 j &&& 255 := hP1.1
  have hD1' : re_D N c1 (zs_up (zs_up (zs_up m1 0 3 0) 0 5 7) 0 15 0) := hD1
  obtain ⟨w1, c2, m2, hw1, q1, q2, hA1, -, -⟩ := re_read (n := 0) (s := 2) (by decide) (by decide) hP1' hD1' rfl
  have hZ1 := hA1.z hP1'
  obtain ⟨z1, z2, z3, z4, z5, z6, z7⟩ := hZ1
  have hok1 : ¬ re_ok 0 2 = 0 := by decide
  have o15 : m2 0 15 = 0 := by
    rcases z7 with ⟨-, -, o⟩ | ⟨o, -⟩
    · exact o
    · exact absurd o hok1
  have o15' : (zs_up m2 3 7 (nI w1)) 0 15 = 0 := o15
  obtain ⟨w2, c3, m3, hw2, q3, q4, hA2, -, -⟩ := re_read (c := zs_up c2 3 7 (nI w1)) (m := zs_up m2 3 7 (nI w1)) (N := N) (n := 4) (s := 2) (by decide) (by decide) z2 z1 o15'
  have hZ2 := hA2.z (c := zs_up c2 3 7 (nI w1)) (m := zs_up m2 3 7 (nI w1)) z2
  obtain ⟨y1, y2, y3, y4, y5, y6, y7⟩ := hZ2
  have hok2 : ¬ re_ok 4 2 = 0 := by decide
  have o16 : m3 0 15 = 0 := by
    rcases y7 with ⟨-, -, o⟩ | ⟨o, -⟩
    · exact o.trans o15
    · exact absurd o hok2
  have q1' : f_B_read c1 0 2 = some (nI w1, c2) := q1
  have q2' : f_M_read (zs_up (zs_up (zs_up m1 0 3 0) 0 5 7) 0 15 0) 0 2 = some (lN w1, m2) := q2
  have q3' : f_B_read (zs_up c2 3 7 (nI w1)) 4 2 = some (nI w2, c3) := q3
  have q4' : f_M_read (zs_up m2 3 7 (nI w1)) 4 2 = some (lN w2, m3) := q4
  unfold re_Cc
  simp only [f_F_reset, f_M_reset, zs_nm, g15, re_pkrs, f1, f2, Option.bind_some, q1', q2', re_7, re_7c, if_false, lN_i, q3', q4', f_D_clear]
  have cF : ∀ k, 12 < k → c3 0 k = c1 0 k := fun k hk => (y3 k hk).trans (z3 k hk)
  have mF : ∀ k, (k < 15 ∨ 17 < k) → k < 22 → m3 0 k = (zs_up (zs_up (zs_up m1 0 3 0) 0 5 7) 0 15 0) 0 k := fun k h1 h2 => (y4 k h1 h2).trans (z4 k h1 h2)
  refine ⟨_, _, rfl, rfl, rfl, ⟨fun j => y2 j, fun j => ?_, fun j => ?_, ?_, rfl⟩, ⟨false, true, 7, x, n, z, v, cc, ?_, ?_, ?_, ?_, ?_, ?_, ?_, ?_, ?_⟩, ⟨rfl, rfl, ⟨rfl, Or.inl rfl⟩, ⟨rfl, Or.inl rfl⟩, ⟨rfl, Or.inl rfl⟩, Or.inl ⟨rfl, rfl⟩, Or.inl ⟨rfl, rfl⟩, y1.2.2.2.2.2.2.2.1, y1.2.2.2.2.2.2.2.2.1, y1.2.2.2.2.2.2.2.2.2⟩, ⟨?_, ?_, ?_, ?_, ?_, ?_⟩, o16⟩
  · show m3 2 j = c3 2 j
    rw [y6 2 j (by decide), y5 2 j (by decide)]
    show m2 2 j = c2 2 j
    rw [z6 2 j (by decide), z5 2 j (by decide)]
    exact hP1.2.1 j
  · show m3 3 j = c3 3 j
    rw [y6 3 j (by decide), y5 3 j (by decide)]
    show (if j = 7 then nI w1 else m2 3 j) = if j = 7 then nI w1 else c2 3 j
    rw [z6 3 j (by decide), z5 3 j (by decide)]
    split
    · rfl
    · exact hP1.2.2.1 j
  · show m3 0 1 = c3 0 13
    rw [cF 13 (by decide), mF 1 (by decide) (by decide)]; exact hP1.2.2.2.1
  · show c3 0 15 = _
    rw [cF 15 (by decide), e15]
  · show m3 0 3 = _; rw [mF 3 (by decide) (by decide)]; rfl
  · show m3 0 4 = _; rw [mF 4 (by decide) (by decide)]; exact k4
  · show m3 0 5 = _; rw [mF 5 (by decide) (by decide)]; rfl
  · show m3 0 6 = _; rw [mF 6 (by decide) (by decide)]; exact (kM 6 (by decide) (by decide)).trans r4
  · show m3 0 7 = _; rw [mF 7 (by decide) (by decide)]; exact (kM 7 (by decide) (by decide)).trans r5
  · show m3 0 8 = _; rw [mF 8 (by decide) (by decide)]; exact (kM 8 (by decide) (by decide)).trans r6
  · show m3 0 9 = _; rw [mF 9 (by decide) (by decide)]; exact (kM 9 (by decide) (by decide)).trans r7
  · show m3 0 10 = _; rw [mF 10 (by decide) (by decide)]; exact (kM 10 (by decide) (by decide)).trans r8
  · show m3 0 13 = c3 0 16; rw [mF 13 (by decide) (by decide), cF 16 (by decide)]
    exact ((kM 13 (by decide) (by decide)).trans x1).trans (kC.1 16 (by decide) (by decide)).symm
  · show m3 0 14 = c3 0 17; rw [mF 14 (by decide) (by decide), cF 17 (by decide)]
    exact ((kM 14 (by decide) (by decide)).trans x2).trans (kC.1 17 (by decide) (by decide)).symm
  · show m3 0 12 = c3 0 19; rw [mF 12 (by decide) (by decide), cF 19 (by decide)]
    exact ((kM 12 (by decide) (by decide)).trans x3).trans (kC.1 19 (by decide) (by decide)).symm
  · show c3 0 18 = 0 ∨ c3 0 18 = 1; rw [cF 18 (by decide)]; exact Or.inl (kC.1 18 (by decide) (by decide))
  · show c3 0 20 = 0 ∨ c3 0 20 = 1; rw [cF 20 (by decide)]; exact Or.inl (kC.1 20 (by decide) (by decide))
  · show m3 0 11 = if c3 0 18 = 0 then (if c3 0 20 = 0 then 0 else 1) else 2
    rw [cF 18 (by decide), cF 20 (by decide), mF 11 (by decide) (by decide), if_pos (show c1 0 18 = 0 from kC.1 18 (by decide) (by decide)), if_pos (show c1 0 20 = 0 from kC.1 20 (by decide) (by decide))]
    exact kM 11 (by decide) (by decide)
