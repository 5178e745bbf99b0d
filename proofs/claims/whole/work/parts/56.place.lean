/-! The operand: its place and its value. -/
set_option maxRecDepth 100000 in
theorem re_g0 (s : ZS) (i j : Nat) (v : Int32) : zs_up s i j v i j = v := by
  unfold zs_up; rw [if_pos rfl, if_pos rfl]
set_option maxRecDepth 100000 in
theorem re_g1 {s : ZS} {i j : Nat} {v : Int32} {a b : Nat} (h : ¬ (a = i ∧ b = j)) : zs_up s i j v a b = s a b := by
  unfold zs_up
  by_cases h1 : a = i
  · rw [if_pos h1, if_neg (fun h2 => h ⟨h1, h2⟩)]
  · rw [if_neg h1]
def re_wy (md q : Nat) : Nat := if md < 6 then md else 6 + q
set_option maxRecDepth 100000 in
theorem re_way {c : ZS} {md q : Nat} (hmd : md < 8) (hq : q < 8) (hany : re_any md q = true) (h27 : c 0 27 = nI md) (h28 : c 0 28 = nI q) : f_I_way c = some (nI (re_wy md q), c) := by
  have hc : md < 6 ∨ (md = 6 ∧ q < 4) := by simpa [re_any] using hany
  have t1 : (6 : Int32) ≤ nI md ↔ 6 ≤ md := nI_leI (a := 6) (by decide) (by omega)
  have t2 : nI md = 6 ↔ md = 6 := re_inj (a := md) (b := 6) (by omega) (by decide)
  have t3 : (4 : Int32) ≤ nI q ↔ 4 ≤ q := nI_leI (a := 4) (by decide) (by omega)
  simp only [f_I_way, f_I_way_41, h27, h28, t1, t2, t3]
  unfold re_wy
  rcases hc with hc | ⟨hc, hq4⟩
  · rw [if_neg (by omega), if_pos hc]
  · rw [if_pos (by omega), if_pos hc, if_neg (by omega), if_neg (by omega)]
    exact congrArg (fun y => some (y, c)) (nI_add 6 q)
def re_st (q s : Nat) : Nat := if q = 7 ∧ s = 0 then 2 else 2 ^ s
set_option maxRecDepth 100000 in
theorem re_strC {c : ZS} {q s : Nat} (hs : s < 3) (hq : q < 8) (h30 : c 0 30 = nI q) (h31 : c 0 31 = nI s) : f_O_stride c = some (nI (re_st q s), c) := by
  have t1 : nI s = 0 ↔ s = 0 := re_inj (a := s) (b := 0) (by omega) (by decide)
  have t2 : nI q = 7 ↔ q = 7 := re_inj (a := q) (b := 7) (by omega) (by decide)
  simp only [f_O_stride, f_O_stride_20, h30, h31, t1, t2, re_shs s hs]
  unfold re_st
  by_cases a : s = 0
  · by_cases b : q = 7
    · rw [if_pos a, if_pos b, if_pos ⟨b, a⟩]; rfl
    · rw [if_pos a, if_neg b, if_neg (fun h => b h.1)]
  · rw [if_neg a, if_neg (fun h => a h.2)]
set_option maxRecDepth 100000 in
theorem re_locM {m : ZS} {md q s : Nat} (hmd : md < 8) (hs : s < 3) (hq : q < 8) : f_M_locate m (nI md) (nI q) (nI s) = f_M_locate_18 m (nI md) (nI q) (nI (re_st q s)) := by
  have t1 : nI s = 0 ↔ s = 0 := re_inj (a := s) (b := 0) (by omega) (by decide)
  have t2 : nI q = 7 ↔ q = 7 := re_inj (a := q) (b := 7) (by omega) (by decide)
  simp only [f_M_locate, f_M_locate_14, f_M_bytes, Option.bind_some, t1, t2, re_shs s hs]
  unfold re_st
  by_cases b : q = 7
  · by_cases a : s = 0
    · rw [if_pos b, if_pos a, if_pos ⟨b, a⟩]; rfl
    · rw [if_pos b, if_neg a, if_neg (fun h => a h.2)]
  · rw [if_neg b, if_neg (fun h => b h.1)]
/-- what taking the operand leaves alone -/
def re_J (c m c' m' : ZS) : Prop := (∀ k, 16 ≤ k → k < 29 → c' 0 k = c 0 k) ∧ (∀ j, c' 2 j = c 2 j) ∧ m' 0 0 = m 0 0 ∧ m' 0 11 = m 0 11 ∧ ∀ k, 18 ≤ k → k < 21 → m' 0 k = m 0 k
set_option maxRecDepth 100000 in
theorem re_J.trans {c m c' m' c'' m'' : ZS} (h : re_J c m c' m') (g : re_J c' m' c'' m'') : re_J c m c'' m'' := ⟨fun k h1 h2 => (g.1 k h1 h2).trans (h.1 k h1 h2), fun j => (g.2.1 j).trans (h.2.1 j), g.2.2.1.trans h.2.2.1, g.2.2.2.1.trans h.2.2.2.1, fun k h1 h2 => (g.2.2.2.2 k h1 h2).trans (h.2.2.2.2 k h1 h2)⟩
set_option maxRecDepth 100000 in
theorem re_K.toJ {c m c' m' : ZS} (h : re_K c m c' m') (h2 : ∀ j, c' 2 j = c 2 j) : re_J c m c' m' := ⟨fun k h1 _ => h.1 k h1, h2, h.2.1, h.2.2.1, fun k h1 h2 => h.2.2.2 k h1 (by omega)⟩
set_option maxRecDepth 100000 in
theorem re_J.out {N f : Nat} {th : Int32} {c m c' m' : ZS} (h : re_O N f th c m) (hM : re_M N c' m') (hJ : re_J c m c' m') : re_O N f th c' m' := by
  obtain ⟨h1, h2, h3, h4, h5, h6, h7⟩ := h
  refine ⟨hM, ⟨(hJ.1 18 (by decide) (by decide)).trans h2.1, (hJ.1 20 (by decide) (by decide)).trans h2.2⟩, (hJ.1 23 (by decide) (by decide)).trans h3, (hJ.2.2.2.2 18 (by decide) (by decide)).trans h4, (hJ.2.2.2.2 20 (by decide) (by decide)).trans h5, hJ.2.2.1.trans h6, ?_⟩
  rw [hJ.1 22 (by decide) (by decide), hJ.2.2.2.2 19 (by decide) (by decide)]
  exact h7
set_option maxRecDepth 100000 in
/-- fields of no account to the relation -/
theorem re_Mup {N : Nat} {c m : ZS} (h : re_M N c m) {k : Nat} (hk : 21 ≤ k) (v : Int32) : re_M N (zs_up c 0 k v) m := by
  obtain ⟨hP, hF, hD, hX, hT⟩ := h
  have e : ∀ j, j < 21 → (zs_up c 0 k v) 0 j = c 0 j := fun j hj => re_g1 (by omega)
  refine ⟨⟨hP.1, hP.2.1, hP.2.2.1, by rw [e 13 (by decide)]; exact hP.2.2.2.1, by rw [e 14 (by decide)]; exact hP.2.2.2.2⟩, hF.keep (e 15 (by decide)) (fun _ _ _ => rfl), hD.keep (fun j hj => e j (by omega)) (fun _ _ => rfl) (fun _ => rfl) (fun _ => rfl), hX.keep (fun j _ hj => e j (by omega)) (fun _ _ _ => rfl), ?_⟩
  unfold re_T
  rw [e 10 (by decide), e 11 (by decide), e 12 (by decide)]
  exact hT
set_option maxRecDepth 100000 in
theorem re_MupM {N : Nat} {c m : ZS} (h : re_M N c m) {k : Nat} (hk : 18 ≤ k) (hk2 : k < 22) (v : Int32) : re_M N c (zs_up m 0 k v) := by
  obtain ⟨hP, hF, hD, hX, hT⟩ := h
  have e : ∀ j, j < 18 ∨ 22 ≤ j → (zs_up m 0 k v) 0 j = m 0 j := fun j hj => re_g1 (by omega)
  refine ⟨⟨hP.1, hP.2.1, hP.2.2.1, by rw [e 1 (by decide)]; exact hP.2.2.2.1, by rw [e 2 (by decide)]; exact hP.2.2.2.2⟩, hF.keep rfl (fun j _ _ => e j (by omega)), hD.keep (fun _ _ => rfl) (fun j hj => e j (by omega)) (fun _ => rfl) (fun _ => rfl), hX.keep (fun _ _ _ => rfl) (fun j _ hj => e j (by omega)), ?_⟩
  unfold re_T
  rw [e 15 (by decide), e 16 (by decide), e 17 (by decide)]
  exact hT
/-- the system's operand as it begins to be located -/
def re_s4 (c : ZS) (w q s : Nat) : ZS := zs_up (zs_up (zs_up c 0 29 (nI w)) 0 30 (nI q)) 0 31 (nI s)
set_option maxRecDepth 100000 in
theorem re_s4M {N : Nat} {c m : ZS} (h : re_M N c m) (w q s : Nat) : re_M N (re_s4 c w q s) (zs_up m 0 21 0) := re_Mup (re_Mup (re_Mup (re_MupM h (by decide) (by decide) 0) (by decide) _) (by decide) _) (by decide) _
set_option maxRecDepth 100000 in
theorem re_s4k (c : ZS) (w q s k : Nat) (hk : k < 29) : re_s4 c w q s 0 k = c 0 k := by
  unfold re_s4
  rw [re_g1 (by omega), re_g1 (by omega), re_g1 (by omega)]
def re_Y (c' m' : ZS) (md q s : Nat) : Prop := c' 0 29 = nI (re_wy md q) ∧ c' 0 30 = nI q ∧ c' 0 31 = nI s ∧ (2 ≤ md → c' 0 32 = m' 0 21)
set_option maxRecDepth 100000 in
theorem re_sg {m : ZS} (v : Nat) : f_M_signed m (nI v).toInt64 1 = some ((nI v).toInt16.toInt32, m) := by
  have := re_signed (m := m) (s := 1) (by decide) (nI v).toInt64
  rw [re_i64] at this
  exact this
set_option maxRecDepth 100000 in
theorem re_sgl {m : ZS} (v : Nat) : f_M_signed m (lN v) 1 = some ((nI v).toInt16.toInt32, m) := by
  have := re_signed (m := m) (s := 1) (by decide) (lN v)
  rw [lN_i] at this
  exact this
set_option maxRecDepth 100000 in
/-- two words -/
theorem re_long {N : Nat} {c m : ZS} (h : re_M N c m) (h0 : c 0 10 = 0) : ∃ (v : Nat) (c' m' : ZS), v < 2 ^ 32 ∧ f_Q_nextLong c = some (nI v, c') ∧ f_M_fetchLong m = some (nI v, m') ∧ re_M N c' m' ∧ re_K c m c' m' ∧ (∀ j, c' 2 j = c 2 j) := by
  obtain ⟨v, c1, m1, hv, f1, f2, hM1, hK1, k1, -, -, e1⟩ := re_fetch h h0
  by_cases g : c1 0 10 = 0
  · obtain ⟨w, c2, m2, hw, f3, f4, hM2, hK2, k2, -, -, e2⟩ := re_fetch hM1 g
    have es : zo_shl (nI v) 16 = nI (v * 2 ^ 16) := re_shlN v 16 (by decide)
    refine ⟨v * 2 ^ 16 ||| w, c2, m2, Nat.or_lt_two_pow (by omega) (by omega), ?_, ?_, hM2, hK1.trans hK2, fun j => (k2 j).trans (k1 j)⟩
    · simp only [f_Q_nextLong, f1, Option.bind_some, if_pos g, f3, es, re_nor]
    · simp only [f_M_fetchLong, f2, Option.bind_some, f4, es, re_nor]
  · have g' : ¬ m1 0 15 = 0 := by rw [hM1.2.2.2.2.1]; exact g
    have hv0 : v = 0 := e1 g
    subst hv0
    refine ⟨0, c1, m1, by decide, ?_, ?_, hM1, hK1, k1⟩
    · simp only [f_Q_nextLong, f1, Option.bind_some, if_neg g]; rfl
    · simp only [f_M_fetchLong, f2, Option.bind_some, re_mfe0 g']; rfl
