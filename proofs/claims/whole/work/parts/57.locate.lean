set_option maxRecDepth 100000 in
theorem re_locate {N : Nat} {c m : ZS} (h : re_M N c m) (h0 : c 0 10 = 0) {md q s : Nat} (hs : s < 3) (hmd : md < 8) (hq : q < 8) (hany : re_any md q = true) (h8 : ¬ (md = 6 ∧ q = 2)) (e25 : c 0 25 = nI s) (e27 : c 0 27 = nI md) (e28 : c 0 28 = nI q) : ∃ c' m', f_O_locate c = some c' ∧ f_M_locate m (nI md) (nI q) (nI s) = some m' ∧ re_M N c' m' ∧ re_J c m c' m' ∧ re_Y c' m' md q s ∧ (md < 2 → c' 0 10 = 0) := by
  have hc : md < 6 ∨ (md = 6 ∧ q < 4) := by simpa [re_any] using hany
  have hwl : re_wy md q < 10 := by unfold re_wy; split <;> omega
  have te : ∀ k : Nat, k < 10 → (nI (re_wy md q) = nI k ↔ re_wy md q = k) := fun k hk => re_inj (by omega) (by omega)
  have te2 : nI (re_wy md q) = 2 ↔ re_wy md q = 2 := te 2 (by decide)
  have te3 : nI (re_wy md q) = 3 ↔ re_wy md q = 3 := te 3 (by decide)
  have te4 : nI (re_wy md q) = 4 ↔ re_wy md q = 4 := te 4 (by decide)
  have te5 : nI (re_wy md q) = 5 ↔ re_wy md q = 5 := te 5 (by decide)
  have te6 : nI (re_wy md q) = 6 ↔ re_wy md q = 6 := te 6 (by decide)
  have te7 : nI (re_wy md q) = 7 ↔ re_wy md q = 7 := te 7 (by decide)
  have te8 : nI (re_wy md q) = 8 ↔ re_wy md q = 8 := te 8 (by decide)
  have te9 : nI (re_wy md q) = 9 ↔ re_wy md q = 9 := te 9 (by decide)
  have tm : ∀ k : Nat, k < 10 → (nI md = nI k ↔ md = k) := fun k hk => re_inj (by omega) (by omega)
  have tm3 : nI md = 3 ↔ md = 3 := tm 3 (by decide)
  have tm4 : nI md = 4 ↔ md = 4 := tm 4 (by decide)
  have tm5 : nI md = 5 ↔ md = 5 := tm 5 (by decide)
  have tm6 : nI md = 6 ↔ md = 6 := tm 6 (by decide)
  have tl1 : nI md ≤ 1 ↔ md ≤ 1 := nI_leI (b := 1) (by omega) (by decide)
  have tg5 : (5 : Int32) ≤ nI md ↔ 5 ≤ md := nI_leI (a := 5) (by decide) (by omega)
  have tq : ∀ k : Nat, k < 10 → (nI q = nI k ↔ q = k) := fun k hk => re_inj (by omega) (by omega)
  have tq1 : nI q = 1 ↔ q = 1 := tq 1 (by decide)
  have tq2 : nI q = 2 ↔ q = 2 := tq 2 (by decide)
  have tq3 : nI q = 3 ↔ q = 3 := tq 3 (by decide)
  have ei : ¬ (nI q < 0 ∨ 8 ≤ q) := by have := re_ri hq; rwa [re_cl hq] at this
  have hs4 : zs_up (zs_up (zs_up c 0 29 (nI (re_wy md q))) 0 30 (nI q)) 0 31 (nI s) = re_s4 c (re_wy md q) q s := rfl
  have a30 : re_s4 c (re_wy md q) q s 0 30 = nI q := rfl
  have a31 : re_s4 c (re_wy md q) q s 0 31 = nI s := rfl
  have a29 : re_s4 c (re_wy md q) q s 0 29 = nI (re_wy md q) := rfl
  have a14 : re_s4 c (re_wy md q) q s 0 14 = c 0 14 := rfl
  have a3 : ∀ j, re_s4 c (re_wy md q) q s 3 j = c 3 j := fun _ => rfl
  have hM4 := re_s4M h (re_wy md q) q s
  have g10 : re_s4 c (re_wy md q) q s 0 10 = 0 := h0
  have hJ4 : re_J c m (re_s4 c (re_wy md q) q s) (zs_up m 0 21 0) := ⟨fun k _ hk => re_s4k c _ q s k hk, fun j => rfl, rfl, rfl, fun k h1 h2 => re_g1 (by omega)⟩
  rw [re_locM hmd hs hq]
  simp only [f_O_locate, re_way hmd hq hany e27 e28, Option.bind_some, zs_nm, re_g0, re_g1, Nat.reduceEqDiff, and_false, false_and, not_false_eq_true, e28, re_r8 hq, e25, hs4, a30, a29, a14, a3, re_cl hq, if_neg ei, te2, te3, te4, te5, te6, te7, te8, te9, f_M_locate_18, f_M_locate_41, f_M_locate_61, f_M_locate_77, f_M_locate_135, f_M_locate_159, tm3, tm4, tm5, tm6, tl1, tg5, tq1, tq2, tq3]
  have fin : ∀ (c1 m1 : ZS) (V : Int32), re_M N c1 m1 → re_K (re_s4 c (re_wy md q) q s) (zs_up m 0 21 0) c1 m1 → (∀ j, c1 2 j = c 2 j) → (re_M N (zs_up c1 0 32 V) (zs_up m1 0 21 V) ∧ re_J c m (zs_up c1 0 32 V) (zs_up m1 0 21 V) ∧ re_Y (zs_up c1 0 32 V) (zs_up m1 0 21 V) md q s) := by
    intro c1 m1 V hM1 hK1 k2
    refine ⟨re_Mup (re_MupM hM1 (by decide) (by decide) V) (by decide) V, ⟨fun k h1 h2 => ?_, fun j => k2 j, ?_, ?_, fun k h1 h2 => ?_⟩, ?_, ?_, ?_, fun _ => rfl⟩
    · rw [re_g1 (by omega), hK1.1 k h1]; exact re_s4k c _ q s k h2
    · exact hK1.2.1
    · exact hK1.2.2.1
    · rw [re_g1 (by omega), hK1.2.2.2 k h1 (by omega)]; exact re_g1 (by omega)
    · exact hK1.1 29 (by decide)
    · exact hK1.1 30 (by decide)
    · exact hK1.1 31 (by decide)
  have e3 : m 3 q = c 3 q := h.1.2.2.1 q
  have hcs : md = 0 ∨ md = 1 ∨ md = 2 ∨ md = 3 ∨ md = 4 ∨ md = 5 ∨ (md = 6 ∧ (q = 0 ∨ q = 1 ∨ q = 3)) := by omega
  rcases hcs with rfl | rfl | rfl | rfl | rfl | rfl | ⟨rfl, hq'⟩
  · have hw : re_wy 0 q = 0 := rfl
    simp only [hw, Nat.reduceEqDiff, if_false, if_true, Nat.zero_le] at *
    exact ⟨_, _, rfl, rfl, hM4, hJ4, ⟨rfl, rfl, rfl, fun hh => absurd hh (by decide)⟩, fun _ => h0⟩
  · have hw : re_wy 1 q = 1 := rfl
    simp only [hw, Nat.reduceEqDiff, if_false, if_true, Nat.le_refl] at *
    exact ⟨_, _, rfl, rfl, hM4, hJ4, ⟨rfl, rfl, rfl, fun hh => absurd hh (by decide)⟩, fun _ => h0⟩
  · have hw : re_wy 2 q = 2 := rfl
    simp only [hw, Nat.reduceEqDiff, Nat.reduceLeDiff, if_false, if_true] at *
    rw [e3]
    obtain ⟨x1, x2, x3⟩ := fin _ _ (c 3 q) hM4 re_K.refl (fun _ => rfl)
    exact ⟨_, _, rfl, rfl, x1, x2, x3, fun hh => absurd hh (by decide)⟩
  · have hw : re_wy 3 q = 3 := rfl
    have hst := re_strC (c := zs_up (re_s4 c (re_wy 3 q) q s) 0 32 (c 3 q)) hs hq rfl rfl
    simp only [hw, Nat.reduceEqDiff, Nat.reduceLeDiff, if_false, if_true, Option.bind_some] at *
    rw [hst, e3]
    obtain ⟨x1, x2, x3⟩ := fin _ _ (c 3 q) hM4 re_K.refl (fun _ => rfl)
    have hd := re_aput x1 q (c 3 q + nI (re_st q s))
    exact ⟨_, _, rfl, rfl, hd.1, x2.trans (hd.2.toJ (fun _ => rfl)), ⟨x3.1, x3.2.1, x3.2.2.1, fun _ => x3.2.2.2 (by decide)⟩, fun hh => absurd hh (by decide)⟩
  · have hw : re_wy 4 q = 4 := rfl
    have hst := re_strC (c := re_s4 c (re_wy 4 q) q s) hs hq rfl rfl
    simp only [hw, Nat.reduceEqDiff, Nat.reduceLeDiff, if_false, if_true, Option.bind_some] at *
    rw [hst, e3]
    have hd := re_aput hM4 q (c 3 q - nI (re_st q s))
    obtain ⟨x1, x2, x3⟩ := fin _ _ (c 3 q - nI (re_st q s)) hd.1 hd.2 (fun _ => rfl)
    simp only [Option.bind_some, a30, re_cl hq, if_neg ei]
    rw [re_comm _ 0 32 3 q _ _ (Or.inl (by decide))]
    exact ⟨_, _, rfl, rfl, x1, x2, x3, fun hh => absurd hh (by decide)⟩
  · have hw : re_wy 5 q = 5 := rfl
    obtain ⟨v, c1, m1, hv, f1, f2, hM1, hK1, k1, k3, -, -⟩ := re_fetch hM4 g10
    simp only [hw, Nat.reduceEqDiff, Nat.reduceLeDiff, if_false, if_true, Option.bind_some] at *
    have e3' : m1 3 q = c 3 q := by rw [hM1.1.2.2.1, k3]; rfl
    simp only [f1, f2, Option.bind_some, re_sg, e3']
    obtain ⟨x1, x2, x3⟩ := fin _ _ (c 3 q + (nI v).toInt16.toInt32) hM1 hK1 (fun j => k1 j)
    exact ⟨_, _, rfl, rfl, x1, x2, x3, fun hh => absurd hh (by decide)⟩
  · rcases hq' with rfl | rfl | rfl
    · have hw : re_wy 6 0 = 6 := rfl
      obtain ⟨v, c1, m1, hv, f1, f2, hM1, hK1, k1, k3, -, -⟩ := re_fetch hM4 g10
      simp only [hw, Nat.reduceEqDiff, Nat.reduceLeDiff, if_false, if_true, Option.bind_some] at *
      simp only [f1, f2, Option.bind_some, re_sg, Int32.zero_add]
      obtain ⟨x1, x2, x3⟩ := fin _ _ ((nI v).toInt16.toInt32) hM1 hK1 (fun j => k1 j)
      exact ⟨_, _, rfl, rfl, x1, x2, x3, fun hh => absurd hh (by decide)⟩
    · have hw : re_wy 6 1 = 7 := rfl
      obtain ⟨v, c1, m1, hv, f1, f2, hM1, hK1, k1⟩ := re_long hM4 g10
      simp only [hw, Nat.reduceEqDiff, Nat.reduceLeDiff, if_false, if_true, Option.bind_some] at *
      simp only [f1, f2, Option.bind_some]
      obtain ⟨x1, x2, x3⟩ := fin _ _ (nI v) hM1 hK1 (fun j => k1 j)
      exact ⟨_, _, rfl, rfl, x1, x2, x3, fun hh => absurd hh (by decide)⟩
    · have hw : re_wy 6 3 = 9 := rfl
      obtain ⟨v, c1, m1, hv, f1, f2, hM1, hK1, k1, k3, -, -⟩ := re_fetch hM4 g10
      simp only [hw, Nat.reduceEqDiff, Nat.reduceLeDiff, if_false, if_true, Option.bind_some] at *
      have e2 : m 0 2 = c 0 14 := h.1.2.2.2.2
      simp only [f1, f2, Option.bind_some, re_sg, e2]
      obtain ⟨x1, x2, x3⟩ := fin _ _ (c 0 14 + (nI v).toInt16.toInt32) hM1 hK1 (fun j => k1 j)
      exact ⟨_, _, rfl, rfl, x1, x2, x3, fun hh => absurd hh (by decide)⟩
