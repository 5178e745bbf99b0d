/-! Storing into the operand. -/
def re_S (N : Nat) (c m c' m' : ZS) : Prop := re_D N c' m' ∧ (∀ j, m' 1 j = c' 1 j &&& 255) ∧ (∀ k, 12 < k → c' 0 k = c 0 k) ∧ (∀ k, (k < 15 ∨ 17 < k) → k < 22 → m' 0 k = m 0 k) ∧ (∀ j, c' 3 j = c 3 j) ∧ (∀ j, m' 3 j = m 3 j) ∧ (∀ j, m' 2 j = c' 2 j) ∧ re_T c' m'
set_option maxRecDepth 100000 in
theorem re_S.toM {N : Nat} {c m c' m' : ZS} {P : Int32} (h : re_M N (zs_up c 0 15 P) m) (hS : re_S N c m c' m') : re_M N (zs_up c' 0 15 P) m' ∧ re_K (zs_up c 0 15 P) m (zs_up c' 0 15 P) m' := by
  obtain ⟨hP, hF, hD, hX, hT⟩ := h
  obtain ⟨z1, z2, z3, z4, z5, z6, z7, z8⟩ := hS
  have e : ∀ k, 12 < k → (zs_up c' 0 15 P) 0 k = (zs_up c 0 15 P) 0 k := by
    intro k hk
    by_cases h15 : k = 15
    · subst h15; rfl
    · rw [re_g1 (by omega), re_g1 (by omega)]; exact z3 k hk
  have e' : ∀ k, k < 15 → (zs_up c' 0 15 P) 0 k = c' 0 k := fun k hk => re_g1 (by omega)
  refine ⟨⟨⟨z2, z7, fun j => ?_, ?_, ?_⟩, hF.keep (e 15 (by decide)) (fun k h1 h2 => z4 k (by omega) (by omega)), z1.keep (fun k hk => e' k (by omega)) (fun _ _ => rfl) (fun _ => rfl) (fun _ => rfl), hX.keep (fun k h1 h2 => e k (by omega)) (fun k h1 h2 => z4 k (by omega) (by omega)), ?_⟩, fun k hk => e k (by omega), z4 0 (by decide) (by decide), z4 11 (by decide) (by decide), fun k h1 h2 => z4 k (by omega) (by omega)⟩
  · exact (z6 j).trans ((hP.2.2.1 j).trans (z5 j).symm)
  · rw [z4 1 (by decide) (by decide), e 13 (by decide)]; exact hP.2.2.2.1
  · rw [z4 2 (by decide) (by decide), e 14 (by decide)]; exact hP.2.2.2.2
  · exact z8
set_option maxRecDepth 100000 in
theorem re_S.toM' {N : Nat} {c m c' m' : ZS} (h : re_M N c m) (hS : re_S N c m c' m') : re_M N c' m' ∧ re_K c m c' m' := by
  have e1 : zs_up c 0 15 (c 0 15) = c := re_up1 c 0 15
  have e2 : zs_up c' 0 15 (c 0 15) = c' := by rw [← hS.2.2.1 15 (by decide)]; exact re_up1 c' 0 15
  have := re_S.toM (P := c 0 15) (by rw [e1]; exact h) hS
  rwa [e1, e2] at this
set_option maxRecDepth 100000 in
theorem re_store {N : Nat} {c m : ZS} {md q s x w : Nat} (h1m : ∀ j, m 1 j = c 1 j &&& 255) (h2m : ∀ j, m 2 j = c 2 j) (hD : re_D N c m) (h0 : c 0 10 = 0) (g0 : m 0 15 = 0) (hs : s < 3) (hmd : md < 8) (hq : q < 8) (hx : x < 2 ^ 32) (hw : w < 2 ^ 62) (hxw : x % re_W s = w % re_W s) (e29 : c 0 29 = nI (re_wy md q)) (e30 : c 0 30 = nI q) (e31 : c 0 31 = nI s) (e32 : ¬ md = 0 → c 0 32 = m 0 21) : ∃ c' m', f_O_store c (nI x) = some c' ∧ f_M_put m (nI md) (nI q) (nI s) (lN w) = some m' ∧ re_S N c m c' m' ∧ ((¬ md = 0 → ∃ n, n < 2 ^ 32 ∧ c 0 32 = nI n ∧ ¬ re_ok n s = 0) → c' 0 10 = 0) := by
  have tm0 : nI md = 0 ↔ md = 0 := re_inj (a := md) (b := 0) (by omega) (by decide)
  have hwl : re_wy md q < 16 := by unfold re_wy; split <;> omega
  have tw0 : nI (re_wy md q) = 0 ↔ re_wy md q = 0 := re_inj (a := re_wy md q) (b := 0) (by omega) (by decide)
  have hw0 : re_wy md q = 0 ↔ md = 0 := by unfold re_wy; split <;> omega
  simp only [f_O_store, f_M_put, e29, e30, e31, tw0, hw0, tm0]
  by_cases g : md = 0
  · simp only [if_pos g]
    obtain ⟨D, p1, p2⟩ := re_put (c := c) (m := m) hq hs hxw (h2m q) g0
    rw [p1, p2]
    refine ⟨_, _, rfl, rfl, ⟨hD, h1m, fun k _ => rfl, fun k _ _ => rfl, fun _ => rfl, fun _ => rfl, fun j => ?_, ⟨by show m 0 15 = c 0 10; rw [g0, h0], Or.inl h0⟩⟩, fun _ => h0⟩
    show (if j = q then D else m 2 j) = if j = q then D else c 2 j
    rw [h2m]
  · simp only [if_neg g, if_pos g0]
    obtain ⟨n, hn, en⟩ := re_of32 (c 0 32)
    obtain ⟨c1, m1, f1, f2, hZ⟩ := re_write (c := c) (m := m) hn hs hx hw hxw h1m hD g0
    rw [← e32 g, en, f1, f2]
    have hT := hZ.toT (Or.inl rfl) h0 g0
    obtain ⟨z1, z2, z3, z4, z5, z6, z7⟩ := hZ
    refine ⟨c1, m1, rfl, rfl, ⟨z1, z2, z3, fun k h1 h2 => z4 k h1 h2, fun j => z5 3 j (by decide), fun j => z6 3 j (by decide), fun j => ?_, hT.1⟩, fun hh => ?_⟩
    · rw [z6 2 j (by decide), z5 2 j (by decide)]; exact h2m j
    · obtain ⟨n', hn', en', hok⟩ := hh g
      have : n = n' := (re_inj hn hn').mp en'
      subst this
      exact hT.2.mpr hok
set_option maxRecDepth 100000 in
/-- store, then marks where nothing failed: operations 1 and 13 -/
theorem re_stMk {N : Nat} {c m : ZS} (h : re_M N c m) (h0 : c 0 10 = 0) {md q s x w : Nat} (hs : s < 3) (hmd : md < 8) (hq : q < 8) (hx : x < 2 ^ 32) (hxw : x % re_W s = w) (e25 : c 0 25 = nI s) (e29 : c 0 29 = nI (re_wy md q)) (e30 : c 0 30 = nI q) (e31 : c 0 31 = nI s) (e32 : ¬ md = 0 → c 0 32 = m 0 21) : ∃ c' m', f_P_storeMarked c (nI x) = some c' ∧ f_M_reckons_44 m (nI s) (nI md) (nI q) (lN w) = some m' ∧ re_M N c' m' ∧ re_K c m c' m' := by
  have g0 : m 0 15 = 0 := by rw [h.2.2.2.2.1, h0]
  have hWl := re_Wle hs
  have hw : w < re_W s := by rw [← hxw]; exact Nat.mod_lt _ (re_Wp s)
  obtain ⟨c1, m1, f1, f2, hS, -⟩ := re_store (x := x) (w := w) h.1.1 h.1.2.1 h.2.2.1 h0 g0 hs hmd hq hx (by omega) (by rw [hxw, Nat.mod_eq_of_lt hw]) e29 e30 e31 e32
  obtain ⟨hM1, hK1⟩ := hS.toM' h
  simp only [f_P_storeMarked, f_M_reckons_44, f1, f2, Option.bind_some]
  by_cases g : c1 0 10 = 0
  · have g' : m1 0 15 = 0 := by rw [hM1.2.2.2.2.1, g]
    obtain ⟨P, m2, k1, k2, hQ⟩ := re_mkT hM1.2.1 hs hxw
    have e25' : c1 0 25 = nI s := (hK1.1 25 (by decide)).trans e25
    simp only [if_pos g, if_pos g', e25', k1 c1 rfl, k2, Option.bind_some]
    exact ⟨_, _, rfl, rfl, hQ.toM hM1, hK1.trans hQ.toK⟩
  · have g' : ¬ m1 0 15 = 0 := by rw [hM1.2.2.2.2.1]; exact g
    simp only [if_neg g, if_neg g']
    exact ⟨_, _, rfl, rfl, hM1, hK1⟩
set_option maxRecDepth 100000 in
/-- store a result whose marks are made already, into an operand that was read: operations 9, 10, 15 -/
theorem re_stR {N : Nat} {c m : ZS} (h : re_M N c m) (h0 : c 0 10 = 0) {md q s x : Nat} {l : Int32} (hs : s < 3) (hmd : md < 8) (hq : q < 8) (hx : x < re_W s) (e29 : c 0 29 = nI (re_wy md q)) (e30 : c 0 30 = nI q) (e31 : c 0 31 = nI s) (e32 : ¬ md = 0 → ∃ n, n < 2 ^ 32 ∧ c 0 32 = nI n ∧ m 0 21 = nI n ∧ ¬ re_ok n s = 0) : ∃ c' m', f_O_store c (nI x) = some c' ∧ f_M_reckons_313 m (nI s) (nI md) (nI q) l (lN x) = some m' ∧ re_M N c' m' ∧ re_K c m c' m' := by
  have g0 : m 0 15 = 0 := by rw [h.2.2.2.2.1, h0]
  have hWl := re_Wle hs
  obtain ⟨c1, m1, f1, f2, hS, hok⟩ := re_store (x := x) (w := x) h.1.1 h.1.2.1 h.2.2.1 h0 g0 hs hmd hq (by omega) (by omega) rfl e29 e30 e31 (fun hh => by obtain ⟨n, -, a, b, -⟩ := e32 hh; rw [a, b])
  obtain ⟨hM1, hK1⟩ := hS.toM' h
  have g : c1 0 10 = 0 := hok (fun hh => by obtain ⟨n, y, a, b, z⟩ := e32 hh; exact ⟨n, y, a, z⟩)
  have g' : m1 0 15 = 0 := by rw [hM1.2.2.2.2.1, g]
  refine ⟨c1, m1, f1, ?_, hM1, hK1⟩
  simp only [f_M_reckons_313, f2, Option.bind_some, if_pos g']
set_option maxRecDepth 100000 in
/-- operation 16: the system stores and marks, the reference marks and stores -/
theorem re_stN {N : Nat} {c m : ZS} (h : re_M N c m) (h0 : c 0 10 = 0) {md q s x w : Nat} {l : Int32} (hs : s < 3) (hmd : md < 8) (hq : q < 8) (hx : x < 2 ^ 32) (hxw : x % re_W s = w) (e25 : c 0 25 = nI s) (e29 : c 0 29 = nI (re_wy md q)) (e30 : c 0 30 = nI q) (e31 : c 0 31 = nI s) (e32 : ¬ md = 0 → ∃ n, n < 2 ^ 32 ∧ c 0 32 = nI n ∧ m 0 21 = nI n ∧ ¬ re_ok n s = 0) : ∃ c' m1 m', f_P_storeMarked c (nI x) = some c' ∧ f_M_tells m (lN w) (nI s) = some m1 ∧ f_M_reckons_313 m1 (nI s) (nI md) (nI q) l (lN w) = some m' ∧ re_M N c' m' ∧ re_K c m c' m' := by
  have g0 : m 0 15 = 0 := by rw [h.2.2.2.2.1, h0]
  have hWl := re_Wle hs
  have hw : w < re_W s := by rw [← hxw]; exact Nat.mod_lt _ (re_Wp s)
  obtain ⟨P, m1, k1, k2, hQ⟩ := re_mkT h.2.1 hs hxw
  have hMQ := hQ.toM h
  have q2 := hQ.2.1
  obtain ⟨c2, m2, f1, f2, hS, hok⟩ := re_store (c := c) (m := m1) (x := x) (w := w) hMQ.1.1 hMQ.1.2.1 (hMQ.2.2.1.keep (fun k hk => (re_g1 (by omega)).symm) (fun _ _ => rfl) (fun _ => rfl) (fun _ => rfl)) h0 (by rw [q2 0 15 (by omega)]; exact g0) hs hmd hq hx (by omega) (by rw [hxw, Nat.mod_eq_of_lt hw]) e29 e30 e31 (fun hh => by obtain ⟨n, -, a, b, -⟩ := e32 hh; rw [a, q2 0 21 (by omega), b])
  have g : c2 0 10 = 0 := hok (fun hh => by obtain ⟨n, y, a, b, z⟩ := e32 hh; exact ⟨n, y, a, z⟩)
  obtain ⟨hM2, hK2⟩ := hS.toM (P := P) hMQ
  have g' : m2 0 15 = 0 := by rw [hM2.2.2.2.2.1]; exact g
  refine ⟨_, m1, m2, ?_, k2, ?_, hM2, hQ.toK.trans hK2⟩
  · have e25' : c2 0 25 = nI s := (hS.2.2.1 25 (by decide)).trans e25
    simp only [f_P_storeMarked, f1, Option.bind_some, if_pos g, e25', k1 c2 (hS.2.2.1 15 (by decide))]
  · simp only [f_M_reckons_313, f2, Option.bind_some, if_pos g']
