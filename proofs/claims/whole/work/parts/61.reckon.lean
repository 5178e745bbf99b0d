/-! The operations that reckon, on an operand that was read. -/
def re_cx (N f : Nat) (th : Int32) (c m : ZS) (op s r md q u v : Nat) : Prop := re_O N f th c m ∧ c 0 10 = 0 ∧ s < 3 ∧ r < 8 ∧ md < 8 ∧ q < 8 ∧ c 0 25 = nI s ∧ c 0 26 = nI r ∧ c 0 27 = nI md ∧ c 0 28 = nI q ∧ u < 2 ^ 32 ∧ c 2 r = nI u ∧ re_V c m md q s v (lN v)
set_option maxRecDepth 100000 in
theorem re_not32 {v : Nat} (hv : v < 2 ^ 32) : nI v ^^^ (-1) = nI (2 ^ 32 - 1 - v) := by
  apply Int32.toBitVec_inj.mp
  rw [Int32.toBitVec_xor, re_bv, re_bv, show (-1 : Int32).toBitVec = BitVec.allOnes 32 by decide, BitVec.xor_allOnes]
  apply BitVec.eq_of_toNat_eq
  rw [BitVec.toNat_not, BitVec.toNat_ofNat, BitVec.toNat_ofNat]
  omega
set_option maxRecDepth 100000 in
theorem re_not64 {v : Nat} (hv : v < 2 ^ 32) : (lN v ^^^ (-1)).toBitVec.toNat = 2 ^ 64 - 1 - v := by
  rw [Int64.toBitVec_xor, re_lbv, show (-1 : Int64).toBitVec = BitVec.allOnes 64 by decide, BitVec.xor_allOnes, BitVec.toNat_not, BitVec.toNat_ofNat]
  omega
set_option maxRecDepth 100000 in
theorem re_VQ {c m c' m' : ZS} {md q s v : Nat} {val : Int64} (h : re_V c m md q s v val) (h1 : ∀ k, 29 ≤ k → c' 0 k = c 0 k) (h2 : m' 0 21 = m 0 21) : re_V c' m' md q s v val := by
  obtain ⟨a1, a2, a3, a4, a5, a6, a7⟩ := h
  refine ⟨a1, (h1 33 (by decide)).trans a2, a3, (h1 29 (by decide)).trans a4, (h1 30 (by decide)).trans a5, (h1 31 (by decide)).trans a6, fun x y => ?_⟩
  obtain ⟨n, b1, b2, b3, b4⟩ := a7 x y
  exact ⟨n, b1, (h1 32 (by decide)).trans b2, h2.trans b3, b4⟩
set_option maxRecDepth 100000 in
theorem re_V32 {c m : ZS} {md q s v : Nat} {val : Int64} (h : re_V c m md q s v val) (h1 : ¬ md = 1) (h2 : ¬ (md = 6 ∧ q = 2)) : ¬ md = 0 → ∃ n, n < 2 ^ 32 ∧ c 0 32 = nI n ∧ m 0 21 = nI n ∧ ¬ re_ok n s = 0 := fun h0 => h.2.2.2.2.2.2 (by omega) h2
set_option maxRecDepth 100000 in
/-- into a data register, marks made already -/
theorem re_toD {N f : Nat} {th : Int32} {c m c1 m1 : ZS} {op s r md q u v x : Nat} (h : re_cx N f th c m op s r md q u v) (hQ : re_Q c m c1 m1) : ∃ c' m', f_P_put c1 (nI x) = some c' ∧ f_M_setD m1 (nI r) (nI s) (lN x) = some m' ∧ re_O N f th c' m' := by
  obtain ⟨hO, h0, hs, hr, hmd, hq, e25, e26, e27, e28, hu, e2, hV⟩ := h
  have g0 : m 0 15 = 0 := by rw [hO.1.2.2.2.2.1, h0]
  have hM1 := hQ.toM hO.1
  obtain ⟨D, p1, p2⟩ := re_put (c := c1) (m := m1) (x := x) (w := x) hr hs rfl (hM1.1.2.1 r) (by rw [hQ.2.1 0 15 (by omega)]; exact g0)
  have hd := re_dput hM1 r D
  have f25 : c1 0 25 = nI s := (hQ.1 0 25 (by omega)).trans e25
  have f26 : c1 0 26 = nI r := (hQ.1 0 26 (by omega)).trans e26
  refine ⟨_, _, ?_, p2, hO.keep hd.1 (hQ.toK.trans hd.2)⟩
  simp only [f_P_put, f25, f26, p1, Option.bind_some]
set_option maxRecDepth 100000 in
/-- into the operand, marks made already -/
theorem re_toO {N f : Nat} {th l : Int32} {c m c1 m1 : ZS} {op s r md q u v x : Nat} (h : re_cx N f th c m op s r md q u v) (h1 : ¬ md = 1) (h2 : ¬ (md = 6 ∧ q = 2)) (hQ : re_Q c m c1 m1) (hx : x < re_W s) : ∃ c' m', f_O_store c1 (nI x) = some c' ∧ f_M_reckons_313 m1 (nI s) (nI md) (nI q) l (lN x) = some m' ∧ re_O N f th c' m' := by
  obtain ⟨hO, h0, hs, hr, hmd, hq, e25, e26, e27, e28, hu, e2, hV⟩ := h
  have hM1 := hQ.toM hO.1
  have hV1 := re_VQ hV (c' := c1) (m' := m1) (fun k hk => hQ.1 0 k (by omega)) (hQ.2.1 0 21 (by omega))
  obtain ⟨c2, m2, f1, f2, hM2, hK2⟩ := re_stR (l := l) hM1 (by rw [hQ.1 0 10 (by omega)]; exact h0) hs hmd hq hx hV1.2.2.2.1 hV1.2.2.2.2.1 hV1.2.2.2.2.2.1 (re_V32 hV1 h1 h2)
  exact ⟨c2, m2, f1, f2, hO.keep hM2 (hQ.toK.trans hK2)⟩
set_option maxRecDepth 100000 in
theorem re_okA {N f : Nat} {th pk : Int32} {c m : ZS} {op s r md q u v : Nat} (h : re_cx N f th c m op s r md q u v) (hop : op = 0 ∨ op = 3 ∨ op = 4 ∨ op = 5 ∨ op = 6 ∨ op = 7 ∨ op = 8 ∨ op = 9 ∨ op = 10 ∨ op = 14 ∨ op = 15 ∨ op = 16) (halt : (op = 9 ∨ op = 10 ∨ op = 15 ∨ op = 16) → ¬ md = 1 ∧ ¬ (md = 6 ∧ q = 2)) : ∃ c' m', re_et c op s r u (nI v) = some c' ∧ re_rt m op (nI s) (nI r) (nI md) (nI q) (lN (u % re_W s)) (lN v) pk = some m' ∧ re_O N f th c' m' := by
  obtain ⟨hO, h0, hs, hr, hmd, hq, e25, e26, e27, e28, hu, e2, hV⟩ := id h
  have hvW : v < re_W s := hV.1
  have hWl := re_Wle hs
  have hW0 := re_Wp s
  have hv32 : v < 2 ^ 32 := by omega
  have vm : v % re_W s = v := Nat.mod_eq_of_lt hvW
  have hF := hO.1.2.1
  have hum : u % re_W s < re_W s := Nat.mod_lt _ hW0
  have lg : ∀ x w : Nat, x % re_W s = w → ∀ op', op' < 9 → ¬ op' = 5 → ∃ c' m', f_P_putMarked c (nI x) = some c' ∧ f_M_reckons_267 m (nI op') (nI s) (nI r) (nI md) (nI q) pk (lN w) = some m' ∧ re_O N f th c' m' := by
    intro x w hxw op' h9 h5
    obtain ⟨c', m1, m', k1, k2, k3, hM', hK'⟩ := re_putMk hO.1 h0 hs hr hxw e25 e26
    refine ⟨c', m', k1, ?_, hO.keep hM' hK'⟩
    simp only [f_M_reckons_267, k2, Option.bind_some, re_276a h9 h5, k3]
  rcases hop with rfl | rfl | rfl | rfl | rfl | rfl | rfl | rfl | rfl | rfl | rfl | rfl
  · obtain ⟨c', m', k1, k2, k3⟩ := lg v v vm 0 (by decide) (by decide)
    refine ⟨c', m', ?_, k2, k3⟩
    show (f_P_putMarked c (nI v)).bind _ = _
    rw [k1]; rfl
  · obtain ⟨x, c1, m1, hx, k1, k2, hQ⟩ := re_sum hF hs hu hv32 hum hvW (Or.inl ⟨rfl, vm⟩)
    obtain ⟨c', m', k3, k4, k5⟩ := re_toD h hQ (x := x)
    refine ⟨c', m', ?_, ?_, k5⟩
    · show (f_A_sum c (nI u) (nI v) (nI s)).bind _ = _
      simp only [k1, Option.bind_some, k3]
    · show f_M_reckons_111 m (nI 3) (nI s) (nI r) (nI md) (nI q) (lN (u % re_W s)) (lN v) pk = _
      simp only [f_M_reckons_111, k2, Option.bind_some, re_276a (op := 3) (by decide) (by decide), k4]
  · obtain ⟨x, c1, m1, c2, m2, hx, -, -, -, k1, k2, hQ⟩ := re_cmpD hF hs hu hv32 rfl vm
    obtain ⟨c', m', k3, k4, k5⟩ := re_toD h hQ (x := x)
    refine ⟨c', m', ?_, ?_, k5⟩
    · show (f_A_difference c (nI u) (nI v) (nI s)).bind _ = _
      simp only [k1, Option.bind_some, k3]
    · show (f_M_difference m (lN (u % re_W s)) (lN v) (nI s) 0).bind _ = _
      simp only [k2, Option.bind_some, re_276a (op := 4) (by decide) (by decide), k4]
  · obtain ⟨x, c1, m1, c2, m2, hx, k1, k2, hQ, -, -, -⟩ := re_cmpD hF hs hu hv32 rfl vm
    refine ⟨c1, m1, ?_, ?_, hO.keep (hQ.toM hO.1) hQ.toK⟩
    · show (f_A_compare c (nI u) (nI v) (nI s)).bind _ = _
      simp only [k1, Option.bind_some]
    · show (f_M_difference m (lN (u % re_W s)) (lN v) (nI s) 1).bind _ = _
      simp only [k2, Option.bind_some, re_276c (op := 5) (Or.inl rfl)]
  · obtain ⟨c', m', k1, k2, k3⟩ := lg (u &&& v) ((u % re_W s) &&& v) (by rw [re_WI hs, Nat.and_mod_two_pow, ← re_WI hs, vm]) 6 (by decide) (by decide)
    refine ⟨c', m', ?_, ?_, k3⟩
    · show (f_P_putMarked c (nI u &&& nI v)).bind _ = _
      rw [re_nand, k1]; rfl
    · show f_M_reckons_267 m (nI 6) (nI s) (nI r) (nI md) (nI q) pk (lN (u % re_W s) &&& lN v) = _
      rw [re_land, k2]
  · obtain ⟨c', m', k1, k2, k3⟩ := lg (u ||| v) ((u % re_W s) ||| v) (by rw [re_WI hs, Nat.or_mod_two_pow, ← re_WI hs, vm]) 7 (by decide) (by decide)
    refine ⟨c', m', ?_, ?_, k3⟩
    · show (f_P_putMarked c (nI u ||| nI v)).bind _ = _
      rw [re_nor, k1]; rfl
    · show f_M_reckons_267 m (nI 7) (nI s) (nI r) (nI md) (nI q) pk (lN (u % re_W s) ||| lN v) = _
      rw [re_lor, k2]
  · obtain ⟨c', m', k1, k2, k3⟩ := lg (u ^^^ v) ((u % re_W s) ^^^ v) (by rw [re_WI hs, Nat.xor_mod_two_pow, ← re_WI hs, vm]) 8 (by decide) (by decide)
    refine ⟨c', m', ?_, ?_, k3⟩
    · show (f_P_putMarked c (nI u ^^^ nI v)).bind _ = _
      rw [re_nxor, k1]; rfl
    · show f_M_reckons_267 m (nI 8) (nI s) (nI r) (nI md) (nI q) pk (lN (u % re_W s) ^^^ lN v) = _
      rw [re_lxor, k2]
  · obtain ⟨x, c1, m1, hx, k1, k2, hQ⟩ := re_sum hF hs hv32 hu hum hvW (Or.inr ⟨vm, rfl⟩)
    obtain ⟨y1, y2⟩ := halt (Or.inl rfl)
    obtain ⟨c', m', k3, k4, k5⟩ := re_toO (l := pk) h y1 y2 hQ hx
    refine ⟨c', m', ?_, ?_, k5⟩
    · show (f_A_sum c (nI v) (nI u) (nI s)).bind _ = _
      simp only [k1, Option.bind_some, k3]
    · show f_M_reckons_111 m (nI 9) (nI s) (nI r) (nI md) (nI q) (lN (u % re_W s)) (lN v) pk = _
      simp only [f_M_reckons_111, k2, Option.bind_some, re_276b (op := 9) (Or.inl rfl), k4]
  · obtain ⟨x, c1, m1, c2, m2, hx, -, -, -, k1, k2, hQ⟩ := re_cmpD (A := v) (B := u) (P := v) hF hs hv32 hu vm rfl
    obtain ⟨y1, y2⟩ := halt (Or.inr (Or.inl rfl))
    obtain ⟨c', m', k3, k4, k5⟩ := re_toO (l := pk) h y1 y2 hQ hx
    refine ⟨c', m', ?_, ?_, k5⟩
    · show (f_A_difference c (nI v) (nI u) (nI s)).bind _ = _
      simp only [k1, Option.bind_some, k3]
    · show (f_M_difference m (lN v) (lN (u % re_W s)) (nI s) 0).bind _ = _
      simp only [k2, Option.bind_some, re_276b (op := 10) (Or.inr (Or.inl rfl)), k4]
  · obtain ⟨P, m1, k1, k2, hQ⟩ := re_mkT hF hs vm
    refine ⟨zs_up c 0 15 P, m1, ?_, ?_, hO.keep (hQ.toM hO.1) hQ.toK⟩
    · show (f_A_markResult c (nI v) (nI s)).bind _ = _
      rw [k1 c rfl]; rfl
    · show (f_M_tells m (lN v) (nI s)).bind _ = _
      simp only [k2, Option.bind_some, re_276c (op := 14) (Or.inr rfl)]
  · obtain ⟨x, c1, m1, c2, m2, hx, -, -, -, k1, k2, hQ⟩ := re_cmpD (A := 0) (B := v) (P := 0) hF hs (by decide) hv32 (Nat.zero_mod _) vm
    obtain ⟨y1, y2⟩ := halt (Or.inr (Or.inr (Or.inl rfl)))
    obtain ⟨c', m', k3, k4, k5⟩ := re_toO (l := pk) h y1 y2 hQ hx
    have k1' : f_A_difference c 0 (nI v) (nI s) = some (nI x, c2) := k1
    have k2' : f_M_difference m 0 (lN v) (nI s) 0 = some (lN x, m2) := k2
    refine ⟨c', m', ?_, ?_, k5⟩
    · show (f_A_difference c 0 (nI v) (nI s)).bind _ = _
      simp only [k1', Option.bind_some, k3]
    · show (f_M_difference m 0 (lN v) (nI s) 0).bind _ = _
      simp only [k2', Option.bind_some, re_276b (op := 15) (Or.inr (Or.inr (Or.inl rfl))), k4]
  · obtain ⟨y1, y2⟩ := halt (Or.inr (Or.inr (Or.inr rfl)))
    have ew : (2 ^ 64 - 1 - v) % re_W s = (2 ^ 32 - 1 - v) % re_W s := by
      rcases re_s3 hs with rfl | rfl | rfl
      · rw [re_W0] at *; omega
      · rw [re_W1] at *; omega
      · rw [re_W2] at *; omega
    obtain ⟨c', m1, m', k1, k2, k3, hM', hK'⟩ := re_stN (l := pk) (x := 2 ^ 32 - 1 - v) hO.1 h0 hs hmd hq (by omega) rfl e25 hV.2.2.2.1 hV.2.2.2.2.1 hV.2.2.2.2.2.1 (re_V32 hV y1 y2)
    refine ⟨c', m', ?_, ?_, hO.keep hM' hK'⟩
    · show (f_P_storeMarked c (nI v ^^^ (-1))).bind _ = _
      rw [re_not32 hv32, k1]; rfl
    · simp only [re_rt, Nat.reduceEqDiff, if_false]
      simp only [re_cut hs, re_not64 hv32, ew, Option.bind_some, f_M_reckons_267, k2, re_276b (op := 16) (Or.inr (Or.inr (Or.inr rfl))), k3]
