/-! The relation within a step: re_B with a fault that may stand in both. -/
def re_T (c m : ZS) : Prop := m 0 15 = c 0 10 ∧ (c 0 10 = 0 ∨ ((c 0 10 = 2 ∨ c 0 10 = 3) ∧ m 0 16 = c 0 11 ∧ m 0 17 = c 0 12 ∧ (c 0 12 = 0 ∨ c 0 12 = 1)))
def re_M (N : Nat) (c m : ZS) : Prop := re_P c m ∧ re_F c m ∧ re_D N c m ∧ re_X c m ∧ re_T c m
/-- what fetch, push, pop and the like leave alone -/
def re_K (c m c' m' : ZS) : Prop := (∀ k, 16 ≤ k → c' 0 k = c 0 k) ∧ m' 0 0 = m 0 0 ∧ m' 0 11 = m 0 11 ∧ ∀ k, 18 ≤ k → k < 22 → m' 0 k = m 0 k
theorem re_K.refl {c m : ZS} : re_K c m c m := ⟨fun _ _ => rfl, rfl, rfl, fun _ _ _ => rfl⟩
theorem re_K.trans {c m c' m' c'' m'' : ZS} (h : re_K c m c' m') (g : re_K c' m' c'' m'') : re_K c m c'' m'' := ⟨fun k hk => (g.1 k hk).trans (h.1 k hk), g.2.1.trans h.2.1, g.2.2.1.trans h.2.2.1, fun k h1 h2 => (g.2.2.2 k h1 h2).trans (h.2.2.2 k h1 h2)⟩
theorem re_F.keep {c c' m m' : ZS} (h : re_F c m) (h1 : c' 0 15 = c 0 15) (h2 : ∀ k, 3 ≤ k → k ≤ 10 → m' 0 k = m 0 k) : re_F c' m' := by
  obtain ⟨t, a, k, x, n, z, v, cc, r0, r1, r2, r3, r4, r5, r6, r7, r8⟩ := h
  exact ⟨t, a, k, x, n, z, v, cc, h1.trans r0, (h2 3 (by decide) (by decide)).trans r1, (h2 4 (by decide) (by decide)).trans r2, (h2 5 (by decide) (by decide)).trans r3, (h2 6 (by decide) (by decide)).trans r4, (h2 7 (by decide) (by decide)).trans r5, (h2 8 (by decide) (by decide)).trans r6, (h2 9 (by decide) (by decide)).trans r7, (h2 10 (by decide) (by decide)).trans r8⟩
theorem re_er23 (n s : Nat) : re_er n s = 2 ∨ re_er n s = 3 := by unfold re_er; split <;> simp
theorem re_Z.toT {N n s : Nat} {d : Int32} {c m c' m' : ZS} (hd : d = 0 ∨ d = 1) (h0 : c 0 10 = 0) (g0 : m 0 15 = 0) (hz : re_Z N n s d c m c' m') : re_T c' m' ∧ (c' 0 10 = 0 ↔ ¬ re_ok n s = 0) := by
  obtain ⟨z1, z2, z3, z4, z5, z6, z7⟩ := hz
  rcases z7 with ⟨o1, o2, o3⟩ | ⟨o1, o2, o3, o4, o5, o6, o7⟩
  · refine ⟨⟨by rw [o3, o2, g0, h0], Or.inl (by rw [o2, h0])⟩, fun _ => o1, fun _ => by rw [o2, h0]⟩
  · have e23 := re_er23 n s
    have hne : ¬ re_er n s = 0 := by rcases e23 with e | e <;> rw [e] <;> decide
    refine ⟨⟨by rw [o5, o2], Or.inr ⟨by rw [o2]; exact e23, by rw [o6, o3], by rw [o7, o4], by rw [o4]; exact hd⟩⟩, fun h => absurd (o2.symm.trans h) hne, fun h => absurd o1 h⟩
theorem re_Z.toM {N n s : Nat} {d : Int32} {c m c' m' : ZS} (hd : d = 0 ∨ d = 1) (hM : re_M N c m) (h0 : c 0 10 = 0) (hz : re_Z N n s d c m c' m') : re_M N c' m' ∧ re_K c m c' m' := by
  obtain ⟨hP, hF, hD, hX, hT⟩ := hM
  have g0 : m 0 15 = 0 := by rw [hT.1, h0]
  have hT' := (hz.toT hd h0 g0).1
  obtain ⟨z1, z2, z3, z4, z5, z6, z7⟩ := hz
  refine ⟨⟨⟨z2, fun j => ?_, fun j => ?_, ?_, ?_⟩, hF.keep (z3 15 (by decide)) (fun k h1 h2 => z4 k (by omega) (by omega)), z1, hX.keep (fun k h1 h2 => z3 k (by omega)) (fun k h1 h2 => z4 k (by omega) (by omega)), hT'⟩, fun k hk => z3 k (by omega), z4 0 (by decide) (by decide), z4 11 (by decide) (by decide), fun k h1 h2 => z4 k (by omega) (by omega)⟩
  · rw [z6 2 j (by decide), z5 2 j (by decide)]; exact hP.2.1 j
  · rw [z6 3 j (by decide), z5 3 j (by decide)]; exact hP.2.2.1 j
  · rw [z4 1 (by decide) (by decide), z3 13 (by decide)]; exact hP.2.2.2.1
  · rw [z4 2 (by decide) (by decide), z3 14 (by decide)]; exact hP.2.2.2.2
theorem re_up0 (m : ZS) (i j : Nat) : zs_up m i j (m i j + 0) = m := by
  funext a b
  unfold zs_up
  split
  · split
    · rename_i h1 h2; rw [h1, h2, Int32.add_zero]
    · rfl
  · rfl
theorem re_up1 (m : ZS) (i j : Nat) : zs_up m i j (m i j) = m := by
  funext a b
  unfold zs_up
  split
  · split
    · rename_i h1 h2; rw [h1, h2]
    · rfl
  · rfl
theorem re_up2 (m : ZS) (i j : Nat) (x y : Int32) : zs_up (zs_up m i j x) i j y = zs_up m i j y := by
  funext a b
  unfold zs_up
  split
  · split <;> rfl
  · rfl
theorem re_mrd0 {m : ZS} (h : ¬ m 0 15 = 0) (a s : Int32) : f_M_read m a s = some (0, m) := by
  simp only [f_M_read, f_M_bytes, Option.bind_some, f_M_allowed, if_neg h, if_true]
theorem re_mfe0 {m : ZS} (h : ¬ m 0 15 = 0) : f_M_fetch m = some (0, m) := by
  simp only [f_M_fetch, re_mrd0 h, Option.bind_some, zs_nm, if_neg h, f_M_fetch_28, re_up0]
  rfl
theorem re_mpop0 {m : ZS} (h : ¬ m 0 15 = 0) (s : Int32) : f_M_pop m s = some (0, m) := by
  simp only [f_M_pop, re_mrd0 h, Option.bind_some, zs_nm, if_neg h, f_M_pop_37, re_7, re_7c, if_false, re_up0]
  rfl
theorem re_fetch {N : Nat} {c m : ZS} (h : re_M N c m) (h0 : c 0 10 = 0) : ∃ (v : Nat) (c' m' : ZS), v < 65536 ∧ f_Q_nextWord c = some (nI v, c') ∧ f_M_fetch m = some (nI v, m') ∧ re_M N c' m' ∧ re_K c m c' m' ∧ (∀ j, c' 2 j = c 2 j) ∧ (∀ j, c' 3 j = c 3 j) ∧ c' 0 15 = c 0 15 ∧ (¬ c' 0 10 = 0 → v = 0) := by
  obtain ⟨hP, hF, hD, hX, hT⟩ := id h
  have g0 : m 0 15 = 0 := by rw [hT.1, h0]
  obtain ⟨n, hn, en⟩ := re_of32 (c 0 14)
  obtain ⟨v, c1, m1, hv, f1, f2, hA, -, hv0⟩ := re_read (s := 1) hn (by decide) hP.1 hD g0
  have hZ := hA.z hP.1
  have hT1 := hZ.toT (Or.inr rfl) h0 g0
  obtain ⟨hM1, hK⟩ := hZ.toM (Or.inr rfl) h h0
  obtain ⟨z1, z2, z3, z4, z5, z6, z7⟩ := id hZ
  have f1' : f_B_read c (c 0 14) 1 = some (nI v, c1) := by rw [en]; exact f1
  have f2' : f_M_read m (m 0 2) 1 = some (lN v, m1) := by rw [hP.2.2.2.2, en]; exact f2
  simp only [f_Q_nextWord, f_M_fetch, f1', f2', Option.bind_some, zs_nm, lN_i, f_M_fetch_28]
  obtain ⟨hP1, hF1, hD1, hX1, hT1'⟩ := id hM1
  by_cases g : c1 0 10 = 0
  · have g' : m1 0 15 = 0 := by rw [hT1'.1, g]
    simp only [if_pos g, if_pos g']
    refine ⟨v, _, _, hv, rfl, rfl, ⟨⟨hP1.1, hP1.2.1, hP1.2.2.1, hP1.2.2.2.1, ?_⟩, hF1, hD1, hX1, hT1'⟩, ⟨fun k hk => ?_, hK.2.1, hK.2.2.1, fun k h1 h2 => ?_⟩, fun j => z5 2 j (by decide), fun j => z5 3 j (by decide), z3 15 (by decide), fun hh => absurd g hh⟩
    · show m1 0 2 + 2 = c1 0 14 + 2; rw [hP1.2.2.2.2]
    · rw [← hK.1 k hk]; simp [zs_up, show k ≠ 14 by omega]
    · rw [← hK.2.2.2 k h1 h2]; simp [zs_up, show k ≠ 2 by omega]
  · have g' : ¬ m1 0 15 = 0 := by rw [hT1'.1]; exact g
    simp only [if_neg g, if_neg g', re_up0]
    have hok : re_ok n 1 = 0 := by
      by_cases hh : re_ok n 1 = 0
      · exact hh
      · exact absurd (hT1.2.mpr hh) g
    exact ⟨v, c1, m1, hv, rfl, rfl, hM1, hK, fun j => z5 2 j (by decide), fun j => z5 3 j (by decide), z3 15 (by decide), fun _ => hv0 hok⟩
theorem re_push {N : Nat} {c m : ZS} (h : re_M N c m) (h0 : c 0 10 = 0) {s x w : Nat} (hs : s < 3) (hx : x < 2 ^ 32) (hw : w < 2 ^ 62) (hxw : x % re_W s = w % re_W s) : ∃ (c' m' : ZS), f_Q_push c (nI s) (nI x) = some c' ∧ f_M_push m (nI s) (lN w) = some m' ∧ re_M N c' m' ∧ re_K c m c' m' ∧ (∀ j, c' 2 j = c 2 j) ∧ c' 0 14 = c 0 14 ∧ c' 0 15 = c 0 15 := by
  obtain ⟨hP, hF, hD, hX, hT⟩ := id h
  have g0 : m 0 15 = 0 := by rw [hT.1, h0]
  have hM1 : re_M N (zs_up c 3 7 (c 3 7 - nI (2 ^ s))) (zs_up m 3 7 (m 3 7 - nI (2 ^ s))) := by
    refine ⟨⟨hP.1, hP.2.1, fun j => ?_, hP.2.2.2.1, hP.2.2.2.2⟩, hF, hD, hX, hT⟩
    show (if j = 7 then m 3 7 - nI (2 ^ s) else m 3 j) = if j = 7 then c 3 7 - nI (2 ^ s) else c 3 j
    rw [hP.2.2.1, hP.2.2.1]
  obtain ⟨n, hn, en⟩ := re_of32 (c 3 7 - nI (2 ^ s))
  obtain ⟨c1, m1, f1, f2, hZ⟩ := re_write (c := zs_up c 3 7 (c 3 7 - nI (2 ^ s))) (m := zs_up m 3 7 (m 3 7 - nI (2 ^ s))) hn hs hx hw hxw hM1.1.1 hM1.2.2.1 g0
  obtain ⟨hM2, hK⟩ := hZ.toM (Or.inl rfl) hM1 h0
  have e1 : (zs_up c 3 7 (c 3 7 - nI (2 ^ s))) 3 7 = nI n := by show c 3 7 - nI (2 ^ s) = nI n; exact en
  have e2 : (zs_up m 3 7 (m 3 7 - nI (2 ^ s))) 3 7 = nI n := by show m 3 7 - nI (2 ^ s) = nI n; rw [hP.2.2.1]; exact en
  simp only [f_Q_push, f_M_push, f_M_bytes, Option.bind_some, zs_nm, if_pos h0, re_7, re_7c, if_false, re_shs s hs, e1, e2, f1, f2]
  exact ⟨c1, m1, rfl, rfl, hM2, hK, fun j => hZ.2.2.2.2.1 2 j (by decide), hZ.2.2.1 14 (by decide), hZ.2.2.1 15 (by decide)⟩
theorem re_pop {N : Nat} {c m : ZS} (h : re_M N c m) (h0 : c 0 10 = 0) {s : Nat} (hs : s < 3) : ∃ (v : Nat) (c' m' : ZS), v < re_W s ∧ f_Q_pop c (nI s) = some (nI v, c') ∧ f_M_pop m (nI s) = some (nI v, m') ∧ re_M N c' m' ∧ re_K c m c' m' ∧ (∀ j, c' 2 j = c 2 j) ∧ c' 0 14 = c 0 14 ∧ c' 0 15 = c 0 15 := by
  obtain ⟨hP, hF, hD, hX, hT⟩ := id h
  have g0 : m 0 15 = 0 := by rw [hT.1, h0]
  obtain ⟨n, hn, en⟩ := re_of32 (c 3 7)
  obtain ⟨v, c1, m1, hv, f1, f2, hA, -, hv0⟩ := re_read hn hs hP.1 hD g0
  have hZ := hA.z hP.1
  obtain ⟨hM1, hK⟩ := hZ.toM (Or.inr rfl) h h0
  obtain ⟨z1, z2, z3, z4, z5, z6, z7⟩ := id hZ
  have f1' : f_B_read c (c 3 7) (nI s) = some (nI v, c1) := by rw [en]; exact f1
  have f2' : f_M_read m (m 3 7) (nI s) = some (lN v, m1) := by rw [hP.2.2.1, en]; exact f2
  simp only [f_Q_pop, f_M_pop, f_M_pop_37, f_M_bytes, f1', f2', Option.bind_some, zs_nm, lN_i, re_7, re_7c, if_false, re_shs s hs]
  obtain ⟨hP1, hF1, hD1, hX1, hT1'⟩ := id hM1
  by_cases g : c1 0 10 = 0
  · have g' : m1 0 15 = 0 := by rw [hT1'.1, g]
    simp only [if_pos g, if_pos g']
    refine ⟨v, _, _, hv, rfl, rfl, ⟨⟨hP1.1, hP1.2.1, fun j => ?_, hP1.2.2.2.1, hP1.2.2.2.2⟩, hF1, hD1, hX1, hT1'⟩, ⟨hK.1, hK.2.1, hK.2.2.1, hK.2.2.2⟩, fun j => z5 2 j (by decide), z3 14 (by decide), z3 15 (by decide)⟩
    show (if j = 7 then m1 3 7 + nI (2 ^ s) else m1 3 j) = if j = 7 then c1 3 7 + nI (2 ^ s) else c1 3 j
    rw [hP1.2.2.1, hP1.2.2.1]
  · have g' : ¬ m1 0 15 = 0 := by rw [hT1'.1]; exact g
    simp only [if_neg g, if_neg g', re_up0]
    exact ⟨v, c1, m1, hv, rfl, rfl, hM1, hK, fun j => z5 2 j (by decide), z3 14 (by decide), z3 15 (by decide)⟩
theorem re_chgM {N : Nat} {c m : ZS} (h : re_M N c m) (w : Int32) : ∃ c' m', f_G_changeStatus c w = some c' ∧ f_M_setStatus m w = some m' ∧ re_M N c' m' ∧ re_K c m c' m' ∧ c' 0 10 = c 0 10 ∧ c' 0 14 = c 0 14 := by
  obtain ⟨hP, hF, hD, hX, hT⟩ := id h
  obtain ⟨c', m', e1, e2, hP', hF', kC, kM, e3⟩ := re_chg hP hF w
  have k10 : c' 0 10 = c 0 10 := kC.1 10 (by decide) (by decide)
  refine ⟨c', m', e1, e2, ⟨hP', hF', hD.keep (fun k hk => kC.1 k (by omega) (by omega)) (fun k hk => kM.1 k (by omega)) kC.2.2.2 kM.2, hX.keep (fun k h1 h2 => kC.1 k (by omega) (by omega)) (fun k h1 h2 => kM.1 k (by omega)), ?_⟩, ⟨fun k hk => kC.1 k (by omega) (by omega), kM.1 0 (by omega), kM.1 11 (by omega), fun k h1 h2 => kM.1 k (by omega)⟩, k10, kC.1 14 (by decide) (by decide)⟩
  unfold re_T
  rw [k10, kC.1 11 (by decide) (by decide), kC.1 12 (by decide) (by decide), kM.1 15 (by omega), kM.1 16 (by omega), kM.1 17 (by omega)]
  exact hT
