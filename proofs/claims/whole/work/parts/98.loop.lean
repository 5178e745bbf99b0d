/-! The law's pure function comes to its end: every pair of calls agrees. -/
theorem re_ix {L j : Nat} (hL : L ≤ 1536) (hj : j ≤ 1536) (h : ¬ (Int32.ofNat L - 3) < nI j) : j + 3 ≤ L := by
  rw [Int32.lt_iff_toInt_lt, nI_toInt (by omega)] at h
  have h1 : (Int32.ofNat L - 3).toInt = (L : Int) - 3 := by
    have e : (Int32.ofNat L - 3) = nI L - nI 3 := rfl
    rw [e, pk_sub_toInt (by omega) (by omega)]
    rfl
  rw [h1] at h
  omega
theorem re_in {L j : Nat} (h : j < L) (hL : L ≤ 1536) : ¬ (nI j < 0 ∨ L ≤ (nI j).toNatClampNeg) := nI_in h (by omega)
theorem re_zb {N : Nat} {c : ZS} {z : Option Int32 × ZS} {m : ZS} (h : re_B N z.2 m) : re_B N (zr_b c z).2 m := by
  obtain ⟨z1, z2⟩ := z
  cases z1 <;> exact h
theorem re_zi {N : Nat} {c : ZS} {z : Option Int32 × ZS} {m : ZS} (h : re_B N z.2 m) : re_B N (zr_i c z).2 m := by
  obtain ⟨z1, z2⟩ := z
  cases z1 <;> exact h
theorem re_law {xs : Nat → Int32} {L : Nat} (hL : L ≤ 1536) : ∀ (n k : Nat) (c m : ZS), k + n = 513 → k ≤ 512 → re_B (8 * k) c m → f_L_law_23 xs L n (c, m) (nI (3 * k)) = some () := by
  intro n
  induction n with
  | zero => intro k c m h1 h2; omega
  | succ n ih =>
    intro k c m h1 h2 hB
    rw [f_L_law_23]
    by_cases hx : (Int32.ofNat L - 3) < nI (3 * k)
    · rw [if_pos hx]
    rw [if_neg hx]
    have hk := re_ix hL (by omega) hx
    have g0 := re_in (show 3 * k < L by omega) hL
    have e1 : nI (3 * k) + 1 = nI (3 * k + 1) := (nI_succ _).symm
    have e2 : nI (3 * k) + 2 = nI (3 * k + 2) := nI_add (3 * k) 2
    have e3 : nI (3 * k) + 3 = nI (3 * (k + 1)) := nI_add (3 * k) 3
    have g1 := re_in (show 3 * k + 1 < L by omega) hL
    have g2 := re_in (show 3 * k + 2 < L by omega) hL
    have next : ∀ c' m', re_B (8 * (k + 1)) c' m' → f_L_law_561 xs L (f_L_law_23 xs L n) (c', m') (nI (3 * k)) = some () := by
      intro c' m' hB'
      unfold f_L_law_561 zs_nm
      rw [e3]
      exact ih (k + 1) c' m' (by omega) (by omega) hB'
    rw [if_neg g0]
    unfold zs_nm
    simp only [e1, e2, if_neg g1, if_neg g2]
    generalize xs (nI (3 * k + 1)).toNatClampNeg = a
    generalize xs (nI (3 * k + 2)).toNatClampNeg = b
    generalize (xs (nI (3 * k)).toNatClampNeg &&& 15) = v
    by_cases v0 : v = 0
    · rw [if_pos v0]
      obtain ⟨z, p, hz, hp, ho, hR⟩ := re_poke hB a b
      rw [hz, hp]
      have hR2 := next _ _ (re_zb (c := c) (hR.mono (by omega)))
      simp only [Option.bind_some, f_M_thrown, f_L_law_158, f_L_law_164]
      rcases ho with ⟨h3, h4⟩ | ⟨h3, h4, h5⟩
      · have e : (zr_b c z).1 = 1 := by unfold zr_b; rw [h3]
        rw [if_pos (h4.trans e.symm), if_neg (by rw [e]; decide)]
        exact hR2
      · have e : (zr_b c z).1 = 0 := by unfold zr_b; rw [h4]
        have eo : (zr_b c z).2 5 0 = if p.1 = 0 then 0 else 1 := by unfold zr_b; rw [h4]; rfl
        rw [if_pos (h3.trans e.symm), if_pos e, eo]
        by_cases hq : p.1 = 0
        · rw [if_pos hq, if_pos hq, if_pos (show lg_cmp (Int32.toInt64 0) 0 = 0 by decide)]; exact hR2
        · rw [if_neg hq, if_neg hq, if_pos (show lg_cmp (Int32.toInt64 1) 1 = 0 by decide)]; exact hR2
    rw [if_neg v0]
    by_cases v1 : v = 1
    · rw [if_pos v1]
      obtain ⟨z, p, hz, hp, ho, hR⟩ := re_peek hB a
      rw [hz, hp]
      have hR2 := next _ _ (re_zi (c := c) (hR.mono (by omega)))
      simp only [Option.bind_some, f_M_thrown, f_L_law_220]
      rcases ho with ⟨h3, h4⟩ | ⟨h3, h4⟩
      · have e : (zr_i c z).1 = 1 := by unfold zr_i; rw [h3]
        rw [if_pos (h4.trans e.symm), if_neg (by rw [e]; decide)]
        exact hR2
      · have e : (zr_i c z).1 = 0 := by unfold zr_i; rw [h4]
        have eo : (zr_i c z).2 5 0 = p.1 := by unfold zr_i; rw [h4]; rfl
        rw [if_pos (h3.trans e.symm), if_pos e, eo, if_pos (re_lg _)]
        exact hR2
    rw [if_neg v1]
    by_cases v2 : v = 2
    · rw [if_pos v2]
      obtain ⟨z, p, hz, hp, ho, hR⟩ := re_set hB a b
      rw [hz, hp]
      have hR2 := next _ _ (re_zb (c := c) (hR.mono (by omega)))
      simp only [Option.bind_some, f_M_thrown, f_L_law_289, f_L_law_295]
      rcases ho with ⟨h3, h4⟩ | ⟨h3, h4, h5⟩
      · have e : (zr_b c z).1 = 1 := by unfold zr_b; rw [h3]
        rw [if_pos (h4.trans e.symm), if_neg (by rw [e]; decide)]
        exact hR2
      · have e : (zr_b c z).1 = 0 := by unfold zr_b; rw [h4]
        have eo : (zr_b c z).2 5 0 = if p.1 = 0 then 0 else 1 := by unfold zr_b; rw [h4]; rfl
        rw [if_pos (h3.trans e.symm), if_pos e, eo]
        by_cases hq : p.1 = 0
        · rw [if_pos hq, if_pos hq, if_pos (show lg_cmp (Int32.toInt64 0) 0 = 0 by decide)]; exact hR2
        · rw [if_neg hq, if_neg hq, if_pos (show lg_cmp (Int32.toInt64 1) 1 = 0 by decide)]; exact hR2
    rw [if_neg v2]
    by_cases v3 : v = 3
    · rw [if_pos v3]
      obtain ⟨z, p, hz, hp, ho, hR⟩ := re_status hB a
      rw [hz, hp]
      simp only [Option.bind_some]
      rw [if_pos ho]
      exact next _ _ (re_mix (hR.mono (by omega)))
    rw [if_neg v3]
    by_cases v4 : v = 4
    · rw [if_pos v4]
      obtain ⟨z, p, hz, hp, ho, hR⟩ := re_run hB (by omega) a
      rw [hz, hp]
      have hR2 := next _ _ (re_zi (c := c) (hR.mono (by omega)))
      simp only [Option.bind_some, f_M_thrown, f_L_law_376]
      rcases ho with ⟨h3, h4⟩ | ⟨h3, h4⟩
      · have e : (zr_i c z).1 = 1 := by unfold zr_i; rw [h3]
        rw [if_pos (h4.trans e.symm), if_neg (by rw [e]; decide)]
        exact hR2
      · have e : (zr_i c z).1 = 0 := by unfold zr_i; rw [h4]
        have eo : (zr_i c z).2 5 0 = p.1 := by unfold zr_i; rw [h4]; rfl
        rw [if_pos (h3.trans e.symm), if_pos e, eo, if_pos (re_lg _)]
        exact hR2
    rw [if_neg v4]
    by_cases v5 : v = 5
    · rw [if_pos v5]
      obtain ⟨z, p, hz, hp, ho, hR⟩ := re_comes hB a
      rw [hz, hp]
      have hR2 := next _ _ (re_zb (c := c) (hR.mono (by omega)))
      simp only [Option.bind_some, f_M_thrown, f_L_law_433, f_L_law_439]
      rcases ho with ⟨h3, h4⟩ | ⟨h3, h4, h5⟩
      · have e : (zr_b c z).1 = 1 := by unfold zr_b; rw [h3]
        rw [if_pos (h4.trans e.symm), if_neg (by rw [e]; decide)]
        exact hR2
      · have e : (zr_b c z).1 = 0 := by unfold zr_b; rw [h4]
        have eo : (zr_b c z).2 5 0 = if p.1 = 0 then 0 else 1 := by unfold zr_b; rw [h4]; rfl
        rw [if_pos (h3.trans e.symm), if_pos e, eo]
        by_cases hq : p.1 = 0
        · rw [if_pos hq, if_pos hq, if_pos (show lg_cmp (Int32.toInt64 0) 0 = 0 by decide)]; exact hR2
        · rw [if_neg hq, if_neg hq, if_pos (show lg_cmp (Int32.toInt64 1) 1 = 0 by decide)]; exact hR2
    rw [if_neg v5]
    by_cases v6 : v = 6
    · rw [if_pos v6]
      obtain ⟨z, p, hz, hp, ho, hR⟩ := re_reset hB
      rw [hz, hp]
      simp only [Option.bind_some]
      rw [if_pos ho]
      exact next _ _ (re_mix (hR.mono (by omega)))
    rw [if_neg v6]
    by_cases v7 : v = 7
    · rw [if_pos v7]
      obtain ⟨z, p, hz, hp, ho, hR⟩ := re_get hB a
      rw [hz, hp]
      have hR2 := next _ _ (re_zi (c := c) (hR.mono (by omega)))
      simp only [Option.bind_some, f_M_thrown, f_L_law_508]
      rcases ho with ⟨h3, h4⟩ | ⟨h3, h4⟩
      · have e : (zr_i c z).1 = 1 := by unfold zr_i; rw [h3]
        rw [if_pos (h4.trans e.symm), if_neg (by rw [e]; decide)]
        exact hR2
      · have e : (zr_i c z).1 = 0 := by unfold zr_i; rw [h4]
        have eo : (zr_i c z).2 5 0 = p.1 := by unfold zr_i; rw [h4]; rfl
        rw [if_pos (h3.trans e.symm), if_pos e, eo, if_pos (re_lg _)]
        exact hR2
    rw [if_neg v7]
    by_cases v8 : v = 8
    · rw [if_pos v8]
      obtain ⟨z, p, hz, hp, ho, hR⟩ := re_gone hB (by omega) a
      rw [hz, hp]
      simp only [Option.bind_some]
      rw [if_pos ho]
      exact next _ _ (re_mix (hR.mono (by omega)))
    rw [if_neg v8]
    by_cases v9 : v = 9
    · rw [if_pos v9]
      obtain ⟨z, p, hz, hp, ho, hR⟩ := re_about hB a
      rw [hz, hp]
      simp only [Option.bind_some]
      rw [if_pos ho]
      exact next _ _ (re_mix (hR.mono (by omega)))
    rw [if_neg v9]
    exact next _ _ (hB.mono (by omega))
