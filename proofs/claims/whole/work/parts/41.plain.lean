/-! The plain calls: about, gone, comes, set, get. -/
theorem re_th {N : Nat} {c m : ZS} {v : Int32} (h : re_B N c m) : re_B N c (zs_up m 0 0 v) := h
theorem re_about {N : Nat} {c m : ZS} (h : re_B N c m) (a : Int32) : re_Cc N (f_F_about c a) (f_M_about m a) := by
  have hm := re_th (v := 0) h
  obtain ⟨hP, hF, hD, ⟨x1, x2, x3, x4, x5, x6⟩, h0⟩ := id h
  unfold re_Cc
  simp only [f_F_about, f_M_about, zs_nm]
  by_cases e0 : a = 0
  · rw [if_pos e0, if_pos e0]
    by_cases y : c 0 18 = 0
    · rw [if_pos y]
      by_cases w : c 0 20 = 0
      · rw [if_pos w]; exact ⟨_, _, rfl, rfl, (by show (0 : Int32) = m 0 11; rw [x6, if_pos y, if_pos w]), hm⟩
      · rw [if_neg w]; exact ⟨_, _, rfl, rfl, (by show (1 : Int32) = m 0 11; rw [x6, if_pos y, if_neg w]), hm⟩
    · rw [if_neg y]; exact ⟨_, _, rfl, rfl, (by show (2 : Int32) = m 0 11; rw [x6, if_neg y]), hm⟩
  rw [if_neg e0, if_neg e0]
  by_cases e1 : a = 1
  · rw [if_pos e1, if_pos e1]; exact ⟨_, _, rfl, rfl, x3.symm, hm⟩
  rw [if_neg e1, if_neg e1]
  by_cases e2 : a = 2
  · rw [if_pos e2, if_pos e2]; exact ⟨_, _, rfl, rfl, hD.2.2.2.2.2.2.2.2.1.symm, hm⟩
  rw [if_neg e2, if_neg e2]
  by_cases e3 : a = 3
  · rw [if_pos e3, if_pos e3]; exact ⟨_, _, rfl, rfl, hD.2.1.symm, hm⟩
  rw [if_neg e3, if_neg e3]
  by_cases e4 : a = 4
  · rw [if_pos e4, if_pos e4]; exact ⟨_, _, rfl, rfl, x1.symm, hm⟩
  rw [if_neg e4, if_neg e4]
  by_cases e5 : a = 5
  · rw [if_pos e5, if_pos e5]; exact ⟨_, _, rfl, rfl, x2.symm, hm⟩
  rw [if_neg e5, if_neg e5]
  exact ⟨_, _, rfl, rfl, rfl, hm⟩
theorem re_rem16 {g j : Nat} (hg : g < 2 ^ 30) : zo_irem (nI g) 16 = nI (g % 16) := pk_rem (d := 16) (by omega) (by decide) (by decide)
theorem re_gone {N : Nat} {c m : ZS} (h : re_B N c m) (hN : N ≤ 4096) (a : Int32) : re_Cc N (f_F_gone c a) (f_M_gone m a) := by
  have hm := re_th (v := 0) h
  obtain ⟨hP, hF, ⟨d1, d2, d3, d4, d5, d6, d7, ⟨g, hg, hc9⟩, d9, d10⟩, hX, h0⟩ := id h
  unfold re_Cc
  simp only [f_F_gone, f_M_gone, zs_nm, f_D_sentBefore, f_M_gone_23]
  have e30 : (zs_up m 0 0 0) 0 30 = c 0 9 := d9
  rw [e30]
  by_cases e0 : a < 0
  · rw [if_pos e0, if_pos e0]; exact ⟨_, _, rfl, rfl, rfl, hm⟩
  rw [if_neg e0, if_neg e0]
  obtain ⟨j, hj, rfl⟩ := nI_of e0
  by_cases e1 : (16 : Int32) ≤ nI j
  · have e2 : (15 : Int32) < nI j := by
      have h1 : nI 16 ≤ nI j := e1
      rw [nI_leI (by decide) hj] at h1
      show nI 15 < nI j
      rw [nI_ltI (by decide) hj]; omega
    rw [if_pos e1, if_pos e2]; exact ⟨_, _, rfl, rfl, rfl, hm⟩
  have hj16 : j < 16 := by
    have h1 : ¬ nI 16 ≤ nI j := e1
    rw [nI_leI (by decide) hj] at h1; omega
  have e2 : ¬ (15 : Int32) < nI j := by
    show ¬ nI 15 < nI j
    rw [nI_ltI (by decide) hj]; omega
  rw [if_neg e1, if_neg e2]
  by_cases e3 : nI j < c 0 9
  · rw [if_pos e3, if_pos e3]
    rw [hc9] at e3 ⊢
    have hjg : j < g := by rw [nI_ltI hj (by omega)] at e3; exact e3
    have e4 : nI g - 1 - nI j = nI (g - 1 - j) := by
      have e5 : nI g - 1 = nI (g - 1) := by
        have := nI_pred (g - 1)
        rw [show g - 1 + 1 = g by omega] at this
        exact this
      rw [e5, pk_sub (by omega)]
    rw [e4, re_rem16 (j := 0) (by omega)]
    have hin := nI_in (c := (g - 1 - j) % 16) (N := 16) (by omega) (by decide)
    rw [if_neg hin, if_neg hin]
    simp only [nI_clamp (show (g - 1 - j) % 16 < 2 ^ 31 by omega), Option.bind_some]
    exact ⟨(c 4 ((g - 1 - j) % 16), c), (m 4 ((g - 1 - j) % 16), zs_up m 0 0 0), rfl, rfl, (d10 _).symm, hm⟩
  · rw [if_neg e3, if_neg e3]; exact ⟨_, _, rfl, rfl, rfl, hm⟩
theorem re_comes {N : Nat} {c m : ZS} (h : re_B N c m) (a : Int32) : re_Wb N (f_F_comes c a) (f_M_comes m a) := by
  obtain ⟨hP, hF, ⟨d1, d2, d3, d4, d5, d6, d7, d8, d9, d10⟩, hX, h0⟩ := id h
  unfold re_Wb
  simp only [f_F_comes, f_M_comes, f_M_comes_12, f_M_comes_17, zs_nm]
  have bad : re_B N c (zs_up m 0 0 1) := re_th h
  have t1 : ¬ (zs_up m 0 0 1) 0 0 ≤ 0 := by show ¬ (1 : Int32) ≤ 0; decide
  have t0 : (zs_up m 0 0 0) 0 0 ≤ 0 := by show (0 : Int32) ≤ 0; decide
  by_cases e0 : a < 0
  · rw [if_pos e0, if_pos e0, if_neg t1]; exact ⟨_, _, rfl, rfl, Or.inl ⟨rfl, rfl⟩, bad⟩
  rw [if_neg e0, if_neg e0]
  by_cases e1 : a ≤ 255
  · rw [if_pos e1, if_pos e1, if_pos t0]
    have e26 : (zs_up m 0 0 0) 0 26 = m 0 26 := rfl
    have e27 : (zs_up m 0 0 0) 0 27 = m 0 27 := rfl
    have ha : ∃ b : Nat, b < 256 ∧ a = nI b := by
      obtain ⟨j, hj, rfl⟩ := nI_of e0
      exact ⟨j, by have := (nI_leI hj (show 255 < 2 ^ 31 by decide)).mp e1; omega, rfl⟩
    simp only [f_D_receive, f_M_comes_42, f_M_comes_55, f_M_comes_60, f_M_comes_76, zs_nm]
    rw [e26]
    rcases d6 with ⟨k1, k2⟩ | ⟨k1, k2, k3⟩
    · rw [if_pos k1, if_pos k2, e27]
      rcases d5.2 with l1 | l1
      · have l2 : m 0 27 = 0 := by rw [d5.1]; exact l1
        rw [if_pos l2]
        refine ⟨_, _, rfl, rfl, Or.inr ⟨rfl, rfl, Or.inr rfl⟩, hP, hF, ⟨d1, d2, d3, d4, ⟨?_, d5.2⟩, Or.inr ⟨rfl, rfl, ha⟩, d7, d8, d9, d10⟩, hX, h0⟩
        show (0 : Int32) = c 0 6
        exact l1.symm
      · have l2 : ¬ m 0 27 = 0 := by rw [d5.1, l1]; decide
        rw [if_neg l2]
        refine ⟨_, _, rfl, rfl, Or.inr ⟨rfl, rfl, Or.inr rfl⟩, hP, hF, ⟨d1, d2, d3, d4, ⟨?_, d5.2⟩, Or.inr ⟨rfl, rfl, ha⟩, d7, d8, d9, d10⟩, hX, h0⟩
        show (1 : Int32) = c 0 6
        exact l1.symm
    · have k4 : ¬ c 0 4 = 0 := by rw [k1]; decide
      have k5 : ¬ m 0 26 = -1 := by rw [k2]; exact re_nm k3
      rw [if_neg k4, if_neg k5, e27]
      rcases d5.2 with l1 | l1
      · have l2 : m 0 27 = 0 := by rw [d5.1]; exact l1
        rw [if_pos l2]
        exact ⟨_, _, rfl, rfl, Or.inr ⟨rfl, rfl, Or.inl rfl⟩, hP, hF, ⟨d1, d2, d3, d4, ⟨rfl, Or.inr rfl⟩, Or.inr ⟨k1, k2, k3⟩, d7, d8, d9, d10⟩, hX, h0⟩
      · have l2 : ¬ m 0 27 = 0 := by rw [d5.1, l1]; decide
        rw [if_neg l2]
        exact ⟨_, _, rfl, rfl, Or.inr ⟨rfl, rfl, Or.inl rfl⟩, hP, hF, ⟨d1, d2, d3, d4, ⟨rfl, Or.inr rfl⟩, Or.inr ⟨k1, k2, k3⟩, d7, d8, d9, d10⟩, hX, h0⟩
  · rw [if_neg e1, if_neg e1, if_neg t1]; exact ⟨_, _, rfl, rfl, Or.inl ⟨rfl, rfl⟩, bad⟩
theorem re_and7 {j : Nat} (hj : j < 2 ^ 32) : nI j &&& 7 = nI (j % 8) := pk_andN hj 3 (by decide)
theorem re_set {N : Nat} {c m : ZS} (h : re_B N c m) (a b : Int32) : re_Wb N (f_F_set c a b) (f_M_set m a b) := by
  obtain ⟨⟨p1, p2, p3, p4, p5⟩, hF, hD, hX, h0⟩ := id h
  unfold re_Wb
  simp only [f_F_set, f_M_set, f_M_set_11, f_M_set_16, zs_nm]
  have bad : re_B N c (zs_up m 0 0 1) := re_th h
  have t1 : ¬ (zs_up m 0 0 1) 0 0 ≤ 0 := by show ¬ (1 : Int32) ≤ 0; decide
  have t0 : (zs_up m 0 0 0) 0 0 ≤ 0 := by show (0 : Int32) ≤ 0; decide
  by_cases e0 : a < 0
  · rw [if_pos e0, if_pos e0, if_neg t1]; exact ⟨_, _, rfl, rfl, Or.inl ⟨rfl, rfl⟩, bad⟩
  rw [if_neg e0, if_neg e0]
  by_cases e1 : a ≤ 17
  · rw [if_pos e1, if_pos e1, if_pos t0]
    obtain ⟨j, hj, rfl⟩ := nI_of e0
    have hj17 : j ≤ 17 := (nI_leI hj (show 17 < 2 ^ 31 by decide)).mp e1
    simp only [f_G_change, zs_nm]
    by_cases e8 : (8 : Int32) ≤ nI j
    · have h8 : 8 ≤ j := (nI_leI (show 8 < 2 ^ 31 by decide) hj).mp e8
      rw [if_pos e8, if_pos e8]
      by_cases e16 : (16 : Int32) ≤ nI j
      · rw [if_pos e16, if_pos e16]
        by_cases e17 : nI j = 16
        · rw [if_pos e17, if_pos e17]
          exact ⟨_, _, rfl, rfl, Or.inr ⟨rfl, rfl, Or.inr rfl⟩, ⟨p1, p2, p3, rfl, p5⟩, hF, hD, hX, h0⟩
        · rw [if_neg e17, if_neg e17]
          exact ⟨_, _, rfl, rfl, Or.inr ⟨rfl, rfl, Or.inr rfl⟩, ⟨p1, p2, p3, p4, rfl⟩, hF, hD, hX, h0⟩
      · have h16 : j < 16 := by
          have : ¬ nI 16 ≤ nI j := e16
          rw [nI_leI (by decide) hj] at this; omega
        rw [if_neg e16, if_neg e16]
        have ej : nI j - 8 = nI (j % 8) := by
          show nI j - nI 8 = _
          rw [pk_sub h8]
          congr 1; omega
        have hin := nI_in (c := j % 8) (N := 8) (by omega) (by decide)
        rw [re_and7 (by omega), ej, if_neg hin, if_neg hin, nI_clamp (by omega)]
        refine ⟨_, _, rfl, rfl, Or.inr ⟨rfl, rfl, Or.inr rfl⟩, ⟨p1, p2, fun i => ?_, p4, p5⟩, hF, hD, hX, h0⟩
        show (if i = j % 8 then b else m 3 i) = if i = j % 8 then b else c 3 i
        rw [p3]
    · have h8 : j < 8 := by
        have : ¬ nI 8 ≤ nI j := e8
        rw [nI_leI (by decide) hj] at this; omega
      rw [if_neg e8, if_neg e8]
      have hin := nI_in (c := j) (N := 8) h8 (by decide)
      rw [re_and7 (by omega), show j % 8 = j by omega, if_neg hin, if_neg hin, nI_clamp (by omega)]
      refine ⟨_, _, rfl, rfl, Or.inr ⟨rfl, rfl, Or.inr rfl⟩, ⟨p1, fun i => ?_, p3, p4, p5⟩, hF, hD, hX, h0⟩
      show (if i = j then b else m 2 i) = if i = j then b else c 2 i
      rw [p2]
  · rw [if_neg e1, if_neg e1, if_neg t1]; exact ⟨_, _, rfl, rfl, Or.inl ⟨rfl, rfl⟩, bad⟩
theorem re_packed {c m : ZS} (h : re_F c m) : f_M_packed m = some (c 0 15, m) := by
  obtain ⟨t, a, k, x, n, z, v, cc, h0, h1, h2, h3, h4, h5, h6, h7, h8⟩ := h
  unfold f_M_packed
  rw [h0, h1, h2, h3, h4, h5, h6, h7, h8]
  rfl
theorem re_get {N : Nat} {c m : ZS} (h : re_B N c m) (a : Int32) : re_Wi N (f_F_get c a) (f_M_get m a) := by
  obtain ⟨⟨p1, p2, p3, p4, p5⟩, hF, hD, hX, h0⟩ := id h
  unfold re_Wi
  simp only [f_F_get, f_M_get, f_M_get_11, f_M_get_16, zs_nm]
  have bad : re_B N c (zs_up m 0 0 1) := re_th h
  have good : re_B N c (zs_up m 0 0 0) := re_th h
  have t1 : ¬ (zs_up m 0 0 1) 0 0 ≤ 0 := by show ¬ (1 : Int32) ≤ 0; decide
  have t0 : (zs_up m 0 0 0) 0 0 ≤ 0 := by show (0 : Int32) ≤ 0; decide
  by_cases e0 : a < 0
  · rw [if_pos e0, if_pos e0, if_neg t1]; exact ⟨_, _, rfl, rfl, Or.inl ⟨rfl, rfl⟩, bad⟩
  rw [if_neg e0, if_neg e0]
  by_cases e1 : a ≤ 18
  · rw [if_pos e1, if_pos e1, if_pos t0]
    obtain ⟨j, hj, rfl⟩ := nI_of e0
    have hj17 : j ≤ 18 := (nI_leI hj (show 18 < 2 ^ 31 by decide)).mp e1
    simp only [f_G_value, zs_nm]
    by_cases e8 : (8 : Int32) ≤ nI j
    · have h8 : 8 ≤ j := (nI_leI (show 8 < 2 ^ 31 by decide) hj).mp e8
      rw [if_pos e8, if_pos e8]
      by_cases e16 : (16 : Int32) ≤ nI j
      · rw [if_pos e16, if_pos e16]
        by_cases e17 : nI j = 16
        · rw [if_pos e17, if_pos e17]
          exact ⟨_, _, rfl, rfl, Or.inr ⟨rfl, (by show some (c 0 13) = some (m 0 1); rw [p4])⟩, good⟩
        · rw [if_neg e17, if_neg e17]
          by_cases e18 : nI j = 17
          · rw [if_pos e18, if_pos e18]
            exact ⟨_, _, rfl, rfl, Or.inr ⟨rfl, (by show some (c 0 14) = some (m 0 2); rw [p5])⟩, good⟩
          · rw [if_neg e18, if_neg e18, re_packed (c := c) good.2.1]
            exact ⟨_, _, rfl, rfl, Or.inr ⟨rfl, rfl⟩, good⟩
      · have h16 : j < 16 := by
          have : ¬ nI 16 ≤ nI j := e16
          rw [nI_leI (by decide) hj] at this; omega
        rw [if_neg e16, if_neg e16]
        have ej : nI j - 8 = nI (j % 8) := by
          show nI j - nI 8 = _
          rw [pk_sub h8]
          congr 1; omega
        have hin := nI_in (c := j % 8) (N := 8) (by omega) (by decide)
        rw [re_and7 (by omega), ej, if_neg hin, if_neg hin, nI_clamp (by omega)]
        exact ⟨_, _, rfl, rfl, Or.inr ⟨rfl, (by show some (c 3 _) = some (m 3 _); rw [p3])⟩, good⟩
    · have h8 : j < 8 := by
        have : ¬ nI 8 ≤ nI j := e8
        rw [nI_leI (by decide) hj] at this; omega
      rw [if_neg e8, if_neg e8]
      have hin := nI_in (c := j) (N := 8) h8 (by decide)
      rw [re_and7 (by omega), show j % 8 = j by omega, if_neg hin, if_neg hin, nI_clamp (by omega)]
      exact ⟨_, _, rfl, rfl, Or.inr ⟨rfl, (by show some (c 2 _) = some (m 2 _); rw [p2])⟩, good⟩
  · rw [if_neg e1, if_neg e1, if_neg t1]; exact ⟨_, _, rfl, rfl, Or.inl ⟨rfl, rfl⟩, bad⟩
