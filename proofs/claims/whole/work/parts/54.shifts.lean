/-! Writing a data register; shifts. -/
set_option maxRecDepth 100000 in
theorem re_nor (a b : Nat) : nI a ||| nI b = nI (a ||| b) := by
  apply Int32.toBitVec_inj.mp
  rw [Int32.toBitVec_or, re_bv, re_bv, re_bv, BitVec.ofNat_or]
set_option maxRecDepth 100000 in
theorem re_nand (a b : Nat) : nI a &&& nI b = nI (a &&& b) := by
  apply Int32.toBitVec_inj.mp
  rw [Int32.toBitVec_and, re_bv, re_bv, re_bv, BitVec.ofNat_and]
set_option maxRecDepth 100000 in
theorem re_nxor (a b : Nat) : nI a ^^^ nI b = nI (a ^^^ b) := by
  apply Int32.toBitVec_inj.mp
  rw [Int32.toBitVec_xor, re_bv, re_bv, re_bv, BitVec.ofNat_xor]
set_option maxRecDepth 100000 in
theorem re_lor (a b : Nat) : lN a ||| lN b = lN (a ||| b) := by
  apply Int64.toBitVec_inj.mp
  rw [Int64.toBitVec_or, re_lbv, re_lbv, re_lbv, BitVec.ofNat_or]
set_option maxRecDepth 100000 in
theorem re_land (a b : Nat) : lN a &&& lN b = lN (a &&& b) := by
  apply Int64.toBitVec_inj.mp
  rw [Int64.toBitVec_and, re_lbv, re_lbv, re_lbv, BitVec.ofNat_and]
set_option maxRecDepth 100000 in
theorem re_lxor (a b : Nat) : lN a ^^^ lN b = lN (a ^^^ b) := by
  apply Int64.toBitVec_inj.mp
  rw [Int64.toBitVec_xor, re_lbv, re_lbv, re_lbv, BitVec.ofNat_xor]
set_option maxRecDepth 100000 in
theorem re_r8 {r : Nat} (hr : r < 8) : nI r &&& 7 = nI r := by rw [re_and7 (by omega), Nat.mod_eq_of_lt hr]
set_option maxRecDepth 100000 in
theorem re_cl {r : Nat} (hr : r < 8) : (nI r).toNatClampNeg = r := nI_clamp (by omega)
set_option maxRecDepth 100000 in
theorem re_ri {r : Nat} (hr : r < 8) : ¬ (nI r < 0 ∨ 8 ≤ (nI r).toNatClampNeg) := nI_in hr (by decide)
set_option maxRecDepth 100000 in
theorem re_put {c m : ZS} {r s x w : Nat} (hr : r < 8) (hs : s < 3) (hxw : x % re_W s = w % re_W s) (h2 : m 2 r = c 2 r) (h0 : m 0 15 = 0) : ∃ D, f_G_putData c (nI r) (nI s) (nI x) = some (zs_up c 2 r D) ∧ f_M_setD m (nI r) (nI s) (lN w) = some (zs_up m 2 r D) := by
  refine ⟨(c 2 r &&& (nI (re_W s - 1) ^^^ (-1))) ||| nI (x % re_W s), ?_, ?_⟩
  · simp only [f_G_putData, re_maskOf hs, Option.bind_some, zs_nm, re_r8 hr, re_cl hr, if_neg (re_ri hr), re_andW hs]
    have e : ¬ (nI r < 0 ∨ 8 ≤ r) := by have := re_ri hr; rwa [re_cl hr] at this
    rw [if_neg e, if_neg e]
  · have e : ¬ (nI r < 0 ∨ 8 ≤ r) := by have := re_ri hr; rwa [re_cl hr] at this
    simp only [f_M_setD, f_M_setD_45, zs_nm, re_cl hr, if_neg e, if_pos h0, re_whole hs, re_cut hs, Option.bind_some]
    by_cases g : nI s = 2
    · rw [if_pos g]
      have g2 : s = 2 := (re_inj (a := s) (b := 2) (by omega) (by decide)).mp g
      subst g2
      rw [lN_i, show (c 2 r &&& (nI (re_W 2 - 1) ^^^ (-1))) ||| nI (x % re_W 2) = nI w from ?_]
      rw [show (nI (re_W 2 - 1) ^^^ (-1)) = 0 by decide, Int32.and_zero, Int32.zero_or, hxw, re_n w]; rfl
    · rw [if_neg g]
      have e2 : (lN w).toBitVec.toNat % re_W s = x % re_W s := by
        rw [hxw, re_lbv, BitVec.toNat_ofNat]
        rcases re_s3 hs with rfl | rfl | rfl
        · rw [re_W0]; omega
        · rw [re_W1]; omega
        · rw [re_W2]; omega
      rw [e2, Int64.toInt32_or, Int64.toInt32_and, Int64.toInt32_xor, re_i64, lN_i, lN_i, h2]
      rfl
/-- one place: what comes in, the new value, what goes out -/
def re_ib (t s v : Nat) : Bool := if t = 1 ∨ t = 4 then v.testBit (re_I s) else if t = 5 then v.testBit 0 else false
def re_nx (t s v : Nat) : Nat := if t % 2 = 0 then (2 * v % re_W s) ||| (re_ib t s v).toNat else (v / 2) ||| ((re_ib t s v).toNat * 2 ^ re_I s)
def re_ot (t s v : Nat) : Bool := if t % 2 = 0 then v.testBit (re_I s) else v.testBit 0
def re_it (t s : Nat) : Nat → Nat → Bool → Bool → Nat × Bool × Bool
  | 0, v, o, h => (v, o, h)
  | k + 1, v, o, h => re_it t s k (re_nx t s v) (re_ot t s v) (h || ((re_nx t s v).testBit (re_I s)).xor (v.testBit (re_I s)))
set_option maxRecDepth 100000 in
theorem re_Wh {s : Nat} (hs : s < 3) : re_W s / 2 = 2 ^ re_I s := by rcases re_s3 hs with rfl | rfl | rfl <;> decide
set_option maxRecDepth 100000 in
theorem re_b1l (b : Bool) : b.toNat ≤ 1 := by cases b <;> decide
set_option maxRecDepth 100000 in
theorem re_nxl {t s v : Nat} (hs : s < 3) (hv : v < re_W s) : re_nx t s v < re_W s := by
  have hW := re_WI hs
  have hp : 2 ≤ re_W s := by rcases re_s3 hs with rfl | rfl | rfl <;> decide
  unfold re_nx
  split
  · have e1 : 2 * v % re_W s < 2 ^ (re_I s + 1) := by rw [← hW]; exact Nat.mod_lt _ (by omega)
    have e2 : (re_ib t s v).toNat < 2 ^ (re_I s + 1) := by rw [← hW]; have := re_b1l (re_ib t s v); omega
    conv => rhs; rw [hW]
    exact Nat.or_lt_two_pow e1 e2
  · have e : (re_ib t s v).toNat * 2 ^ re_I s < re_W s := by
      rw [← re_Wh hs]; cases re_ib t s v <;> simp <;> omega
    have e1 : v / 2 < 2 ^ (re_I s + 1) := by rw [← hW]; omega
    rw [hW] at e ⊢
    exact Nat.or_lt_two_pow e1 e
set_option maxRecDepth 100000 in
theorem re_shl1 (v : Nat) : zo_shl (nI v) 1 = nI (2 * v) := by
  apply Int32.toBitVec_inj.mp
  apply BitVec.eq_of_toNat_eq
  unfold zo_shl
  rw [pk_shl _ (1 &&& 31) 1 (by decide), re_bv, re_bv, BitVec.toNat_ofNat, BitVec.toNat_ofNat]
  omega
set_option maxRecDepth 100000 in
theorem re_ushr1 {v : Nat} (hv : v < 2 ^ 32) : zo_ushr (nI v) 1 = nI (v / 2) := by
  apply Int32.toBitVec_inj.mp
  apply BitVec.eq_of_toNat_eq
  unfold zo_ushr
  show ((nI v).toUInt32 >>> ((1 : Int32).toUInt32 &&& Int32.toUInt32 31)).toBitVec.toNat = _
  rw [UInt32.toBitVec_shiftRight, show (((1 : Int32).toUInt32 &&& Int32.toUInt32 31).toBitVec % 32) = 1#32 by decide]
  show ((nI v).toBitVec >>> 1#32).toNat = _
  rw [re_bv, re_bv, BitVec.ushiftRight_eq', BitVec.toNat_ushiftRight, BitVec.toNat_ofNat, BitVec.toNat_ofNat, Nat.shiftRight_eq_div_pow]
  show v % 2 ^ 32 / 2 ^ 1 = v / 2 % 2 ^ 32
  omega
set_option maxRecDepth 100000 in
theorem re_top1 {v s : Nat} (hs : s < 3) : (nI v &&& nI (re_W s / 2) = 0) ↔ v.testBit (re_I s) = false := re_bit hs
set_option maxRecDepth 100000 in
theorem re_low1 (v : Nat) : (nI v &&& 1 = 0) ↔ v.testBit 0 = false := by
  rw [show (1 : Int32) = nI 1 from rfl, re_mask _ _ 0 (by decide), re_tb (by decide)]
  cases v.testBit 0 <;> decide
set_option maxRecDepth 100000 in
theorem re_oL {c : ZS} {v s : Nat} (hs : s < 3) (b : Bool) : f_A_onceLeft c (nI v) (nI s) (b2 b) = some (nI ((2 * v % re_W s) ||| b.toNat), c) := by
  have hp : 2 ≤ re_W s := by rcases re_s3 hs with rfl | rfl | rfl <;> decide
  have e : (2 * v ||| b.toNat) % re_W s = (2 * v % re_W s) ||| b.toNat := by
    have := re_b1l b
    rw [re_WI hs, Nat.or_mod_two_pow, ← re_WI hs, Nat.mod_eq_of_lt (a := b.toNat) (by omega)]
  have k : ∀ t : Int32, t = nI b.toNat → f_A_onceLeft_12 c (nI s) t (zo_shl (nI v) 1) = some (nI ((2 * v % re_W s) ||| b.toNat), c) := by
    intro t ht
    simp only [f_A_onceLeft_12, re_maskOf hs, Option.bind_some, re_shl1, ht, re_nor, re_andW hs, e]
  unfold f_A_onceLeft
  cases b
  · rw [if_pos (show b2 false = 0 from rfl)]; exact k 0 rfl
  · rw [if_neg (by decide)]; exact k 1 rfl
/-- what the system's loop does at its end -/
noncomputable def re_eC (c : ZS) (t s : Nat) (v : Nat) (o h : Bool) : Option (Int32 × ZS) :=
  (f_A_markSign c (nI v) (nI s)).bind fun s4 => (f_G_mark s4 1 (b2 o)).bind fun s5 =>
      if nI t = 0 then
        if b2 h = 0 then
          f_A_shift_201 s5 (nI t) (nI v) (b2 o) 2
        else
          f_A_shift_202 s5 (nI t) (nI v) (b2 o) 1 2
      else
        f_A_shift_201 s5 (nI t) (nI v) (b2 o) 2
set_option maxRecDepth 100000 in
theorem re_shK {c : ZS} {t s v p i : Nat} (ht : t < 8) (hs : s < 3) (hv : v < re_W s) (K : ZS → Int32 → Int32 → Int32 → Int32 → Int32 → Int32 → Int32 → Int32 → Int32 → Option (Int32 × ZS)) (h : Bool) : (if b2 (decide (t % 2 = 0)) = 0 then f_A_shift_56 K c (nI s) (nI t) (nI p) (nI (re_W s / 2)) (b2 (decide (t % 2 = 0))) (nI v) (b2 h) (nI i) 1 (nI v) else f_A_shift_56 K c (nI s) (nI t) (nI p) (nI (re_W s / 2)) (b2 (decide (t % 2 = 0))) (nI v) (b2 h) (nI i) (nI (re_W s / 2)) (nI v)) = K c (nI s) (nI t) (nI p) (nI (re_W s / 2)) (b2 (decide (t % 2 = 0))) (nI (re_nx t s v)) (b2 (re_ot t s v)) (b2 (h || ((re_nx t s v).testBit (re_I s)).xor (v.testBit (re_I s)))) (nI (i + 1)) := by
  have hWl := re_Wle hs
  have hI := re_Il hs
  have k154 : ∀ (lf o : Int32) (w : Nat), f_A_shift_133 K c (nI s) (nI t) (nI p) (nI (re_W s / 2)) lf (nI v) o (b2 h) (nI i) (nI w) = K c (nI s) (nI t) (nI p) (nI (re_W s / 2)) lf (nI w) o (b2 (h || (w.testBit (re_I s)).xor (v.testBit (re_I s)))) (nI (i + 1)) := by
    intro lf o w
    have e1 : ((nI w ^^^ nI v) &&& nI (re_W s / 2) = 0) ↔ (w.testBit (re_I s)).xor (v.testBit (re_I s)) = false := by
      rw [re_top _ hs, Int32.toBitVec_xor, BitVec.getLsbD_xor, re_tb hI, re_tb hI]
    simp only [f_A_shift_133, f_A_shift_149, f_A_shift_154, zs_nm, nI_1, e1]
    cases h
    · rw [if_pos (show b2 false = 0 from rfl)]
      by_cases g : (w.testBit (re_I s)).xor (v.testBit (re_I s)) = false
      · rw [if_pos g, g]; rfl
      · rw [if_neg g, show (w.testBit (re_I s)).xor (v.testBit (re_I s)) = true by simpa using g]; rfl
    · rw [if_neg (by decide)]; rfl
  have kL : f_A_shift_56 K c (nI s) (nI t) (nI p) (nI (re_W s / 2)) 1 (nI v) (b2 h) (nI i) (nI (re_W s / 2)) (nI v) = f_A_shift_65 K c (nI s) (nI t) (nI p) (nI (re_W s / 2)) 1 (nI v) (b2 h) (nI i) (b2 (v.testBit (re_I s))) := by
    simp only [f_A_shift_56, re_top1 hs]
    by_cases g : v.testBit (re_I s) = false
    · rw [if_pos g, g]; rfl
    · rw [if_neg g, show v.testBit (re_I s) = true by simpa using g]; rfl
  have kR : f_A_shift_56 K c (nI s) (nI t) (nI p) (nI (re_W s / 2)) 0 (nI v) (b2 h) (nI i) 1 (nI v) = f_A_shift_65 K c (nI s) (nI t) (nI p) (nI (re_W s / 2)) 0 (nI v) (b2 h) (nI i) (b2 (v.testBit 0)) := by
    simp only [f_A_shift_56, re_low1]
    by_cases g : v.testBit 0 = false
    · rw [if_pos g, g]; rfl
    · rw [if_neg g, show v.testBit 0 = true by simpa using g]; rfl
  have te : ∀ k : Nat, k < 8 → (nI t = nI k ↔ t = k) := fun k hk => re_inj (by omega) (by omega)
  have te1 : nI t = 1 ↔ t = 1 := te 1 (by decide)
  have te4 : nI t = 4 ↔ t = 4 := te 4 (by decide)
  have te5 : nI t = 5 ↔ t = 5 := te 5 (by decide)
  have o0 : ∀ b : Bool, b2 b = 0 ↔ b = false := by decide
  by_cases g : t % 2 = 0
  · rw [decide_eq_true (p := t % 2 = 0) g]
    show (if (1 : Int32) = 0 then _ else _) = _
    rw [if_neg (by decide)]
    refine kL.trans ?_
    have eo : re_ot t s v = v.testBit (re_I s) := by unfold re_ot; rw [if_pos g]
    have en : ∀ b : Bool, b = re_ib t s v → f_A_shift_91 K c (nI s) (nI t) (nI p) (nI (re_W s / 2)) 1 (nI v) (b2 (v.testBit (re_I s))) (b2 h) (nI i) (b2 b) (nI s) (nI v) = K c (nI s) (nI t) (nI p) (nI (re_W s / 2)) 1 (nI (re_nx t s v)) (b2 (re_ot t s v)) (b2 (h || ((re_nx t s v).testBit (re_I s)).xor (v.testBit (re_I s)))) (nI (i + 1)) := by
      intro b hb
      simp only [f_A_shift_91, re_oL hs, Option.bind_some, f_A_shift_101, f_A_shift_113, te1, te5, if_neg (show ¬ t = 5 by omega), if_neg (show ¬ t = 1 by omega), k154]
      rw [eo, show (2 * v % re_W s ||| b.toNat) = re_nx t s v by unfold re_nx; rw [if_pos g, hb]]
    simp only [f_A_shift_65, if_neg (show ¬ (1 : Int32) = 0 by decide), te4, f_A_shift_90, o0]
    by_cases g4 : t = 4
    · rw [if_pos g4]
      have ei : re_ib t s v = v.testBit (re_I s) := by unfold re_ib; rw [if_pos (Or.inr g4)]
      by_cases gb : v.testBit (re_I s) = false
      · rw [if_pos gb]; exact en false (by rw [ei, gb])
      · rw [if_neg gb]; exact en true (by rw [ei]; simpa using gb)
    · rw [if_neg g4]
      refine en false ?_
      unfold re_ib
      rw [if_neg (by omega), if_neg (by omega)]
  · rw [decide_eq_false (p := t % 2 = 0) g]
    show (if (0 : Int32) = 0 then _ else _) = _
    rw [if_pos rfl]
    refine kR.trans ?_
    have eo : re_ot t s v = v.testBit 0 := by unfold re_ot; rw [if_neg g]
    have ew : ∀ w : Nat, w = re_nx t s v → f_A_shift_133 K c (nI s) (nI t) (nI p) (nI (re_W s / 2)) 0 (nI v) (b2 (v.testBit 0)) (b2 h) (nI i) (nI w) = K c (nI s) (nI t) (nI p) (nI (re_W s / 2)) 0 (nI (re_nx t s v)) (b2 (re_ot t s v)) (b2 (h || ((re_nx t s v).testBit (re_I s)).xor (v.testBit (re_I s)))) (nI (i + 1)) := by
      intro w hw
      rw [k154, eo, hw]
    have n0 : re_ib t s v = false → v / 2 = re_nx t s v := by
      intro hh; unfold re_nx; rw [if_neg g, hh]; simp
    have n1 : re_ib t s v = true → (v / 2 ||| re_W s / 2) = re_nx t s v := by
      intro hh; unfold re_nx; rw [if_neg g, hh, re_Wh hs]; simp
    simp only [f_A_shift_65, if_pos rfl, f_A_shift_101, f_A_shift_113, f_A_shift_126, zs_nm, re_ushr1 (show v < 2 ^ 32 by omega), te1, te5, o0, re_top1 hs, re_nor]
    by_cases g5 : t = 5
    · have ei : re_ib t s v = v.testBit 0 := by unfold re_ib; rw [if_neg (by omega), if_pos g5]
      rw [if_pos g5, if_neg (show ¬ t = 1 by omega)]
      by_cases gb : v.testBit 0 = false
      · rw [if_pos gb]; exact ew _ (n0 (by rw [ei, gb]))
      · rw [if_neg gb]; exact ew _ (n1 (by rw [ei]; simpa using gb))
    · rw [if_neg g5]
      by_cases g1 : t = 1
      · have ei : re_ib t s v = v.testBit (re_I s) := by unfold re_ib; rw [if_pos (Or.inl g1)]
        rw [if_pos g1]
        by_cases gb : v.testBit (re_I s) = false
        · rw [if_pos gb]; exact ew _ (n0 (by rw [ei, gb]))
        · rw [if_neg gb]; exact ew _ (n1 (by rw [ei]; simpa using gb))
      · rw [if_neg g1]
        refine ew _ (n0 ?_)
        unfold re_ib
        rw [if_neg (by omega), if_neg g5]
set_option maxRecDepth 100000 in
theorem re_shC {c : ZS} {t s p : Nat} (ht : t < 8) (hs : s < 3) (hp : p < 16) : ∀ k i fuel v o h, i + k = p → k < fuel → v < re_W s → f_A_shift_36 fuel c (nI s) (nI t) (nI p) (nI (re_W s / 2)) (b2 (decide (t % 2 = 0))) (nI v) (b2 o) (b2 h) (nI i) = re_eC c t s (re_it t s k v o h).1 (re_it t s k v o h).2.1 (re_it t s k v o h).2.2 := by
  intro k
  induction k with
  | zero =>
    intro i fuel v o h h1 h2 h3
    obtain ⟨f, rfl⟩ : ∃ f, fuel = f + 1 := ⟨fuel - 1, by omega⟩
    rw [f_A_shift_36, if_pos (nI_le (by omega) (by omega))]
    rfl
  | succ k ih =>
    intro i fuel v o h h1 h2 h3
    obtain ⟨f, rfl⟩ : ∃ f, fuel = f + 1 := ⟨fuel - 1, by omega⟩
    rw [f_A_shift_36, if_neg (nI_ge (by omega) (by omega)), re_shK ht hs h3, ih (i + 1) f _ _ _ (by omega) (by omega) (re_nxl hs h3)]
    rfl
set_option maxRecDepth 100000 in
theorem re_eCv {c : ZS} {T a : Bool} {k : Fin 8} {x n z v cc : Bool} (h15 : c 0 15 = re_pk T a k x n z v cc) {t s w : Nat} (ht : t < 8) (hs : s < 3) (hw : w < re_W s) (o h : Bool) : re_eC c t s w o h = some (nI w, zs_up c 0 15 (re_pk T a k (if 4 ≤ t then x else o) (w.testBit (re_I s)) (decide (w = 0)) (if t = 0 then h else false) o)) := by
  have te0 : nI t = 0 ↔ t = 0 := re_inj (a := t) (b := 0) (by omega) (by omega)
  have te4 : (4 : Int32) ≤ nI t ↔ 4 ≤ t := nI_leI (a := 4) (by decide) (by omega)
  unfold re_eC
  conv => lhs; rw [re_own h15]
  simp only [re_mkSign _ hs, Option.bind_some, re_mkC, te0, f_A_shift_201, Nat.mod_eq_of_lt hw]
  have key : ∀ b : Bool, b = (if t = 0 then h else false) → f_A_shift_202 (zs_up c 0 15 (re_pk T a k x (w.testBit (re_I s)) (decide (w = 0)) v o)) (nI t) (nI w) (b2 o) (b2 b) 2 = some (nI w, zs_up c 0 15 (re_pk T a k (if 4 ≤ t then x else o) (w.testBit (re_I s)) (decide (w = 0)) (if t = 0 then h else false) o)) := by
    intro b hb
    simp only [f_A_shift_202, re_mkV, Option.bind_some, te4, f_A_shift_221, re_mkX]
    rw [← hb]
    by_cases g : 4 ≤ t
    · rw [if_pos g, if_pos g]
    · rw [if_neg g, if_neg g]
  by_cases g0 : t = 0
  · rw [if_pos g0]
    cases h
    · rw [if_pos (show b2 false = 0 from rfl)]; exact key false (by rw [if_pos g0])
    · rw [if_neg (show ¬ b2 true = 0 by decide)]; exact key true (by rw [if_pos g0])
  · rw [if_neg g0]; exact key false (by rw [if_neg g0])
set_option maxRecDepth 100000 in
theorem re_lone (w : Int64) : w &&& 1 = lN (w.toBitVec.getLsbD 0).toNat := by
  have e : w &&& 1 = if w.toBitVec.getLsbD 0 then 1 else 0 := by
    apply Int64.toBitVec_inj.mp
    rw [Int64.toBitVec_and, show (1 : Int64).toBitVec = BitVec.twoPow 64 0 by decide, BitVec.and_twoPow]
    split <;> rfl
  rw [e]
  cases w.toBitVec.getLsbD 0 <;> rfl
set_option maxRecDepth 100000 in
theorem re_lhi {v i : Nat} (hi : i < 64) : (zo_lshr (lN v) (nI i)) &&& 1 = lN (v.testBit i).toNat := by
  rw [re_lone, re_lshrb _ i 0 hi (by decide)]
  rw [if_pos (by omega), Nat.add_zero, re_ltb hi]
set_option maxRecDepth 100000 in
theorem re_llo (v : Nat) : lN v &&& 1 = lN (v.testBit 0).toNat := by
  rw [re_lone, re_ltb (by decide)]
set_option maxRecDepth 100000 in
theorem re_lshlN (w d : Nat) (hd : d < 64) : zo_lshl (lN w) (nI d) = lN (w * 2 ^ d) := by
  apply Int64.toBitVec_inj.mp
  apply BitVec.eq_of_toNat_eq
  unfold zo_lshl
  rw [Int64.toBitVec_shiftLeft]
  show ((lN w).toBitVec <<< (((nI d).toInt64 &&& 63).toBitVec.smod 64).toNat).toNat = _
  rw [re_lsm d hd, re_lbv, re_lbv, BitVec.toNat_shiftLeft, BitVec.toNat_ofNat, BitVec.toNat_ofNat, Nat.shiftLeft_eq, Nat.mod_mul_mod]
set_option maxRecDepth 100000 in
theorem re_lbe : ∀ a b : Bool, (lg_cmp (lN a.toNat) (lN b.toNat) = 0 ↔ a = b) := by decide
set_option maxRecDepth 100000 in
theorem re_b2n : ∀ b : Bool, (lN b.toNat).toInt32 = b2 b := by decide
noncomputable def re_eM (m : ZS) (t s r : Nat) (v : Nat) (o h : Bool) : Option ZS :=
  (f_M_tells m (lN v) (nI s)).bind fun s4 =>
      if nI t = 0 then
        f_M_shifts_203 s4 (nI s) (nI r) (nI t) (lN v) (b2 o) (b2 h)
      else
        f_M_shifts_203 s4 (nI s) (nI r) (nI t) (lN v) (b2 o) 0
set_option maxRecDepth 100000 in
theorem re_shN {m : ZS} {t s v p i r : Nat} (ht : t < 8) (hs : s < 3) (hv : v < re_W s) (K : ZS → Int32 → Int32 → Int32 → Int64 → Int32 → Int32 → Int32 → Int32 → Int32 → Option ZS) (h : Bool) : (if zo_irem (nI t) 2 = 0 then f_M_shifts_77 K m (nI s) (nI r) (nI t) (lN v) (nI (re_I s)) (b2 h) (nI p) (nI i) (lN (v.testBit (re_I s)).toNat) (lN (v.testBit 0).toNat) 1 else f_M_shifts_77 K m (nI s) (nI r) (nI t) (lN v) (nI (re_I s)) (b2 h) (nI p) (nI i) (lN (v.testBit (re_I s)).toNat) (lN (v.testBit 0).toNat) 0) = K m (nI s) (nI r) (nI t) (lN (re_nx t s v)) (nI (re_I s)) (b2 (h || ((re_nx t s v).testBit (re_I s)).xor (v.testBit (re_I s)))) (b2 (re_ot t s v)) (nI p) (nI (i + 1)) := by
  have hWl := re_Wle hs
  have hI := re_Il hs
  have te : ∀ k : Nat, k < 8 → (nI t = nI k ↔ t = k) := fun k hk => re_inj (by omega) (by omega)
  have te1 : nI t = 1 ↔ t = 1 := te 1 (by decide)
  have te4 : nI t = 4 ↔ t = 4 := te 4 (by decide)
  have te5 : nI t = 5 ↔ t = 5 := te 5 (by decide)
  have tr : zo_irem (nI t) 2 = 0 ↔ t % 2 = 0 := by
    have e : zo_irem (nI t) 2 = nI (t % 2) := pk_rem (d := 2) (by omega) (by decide) (by decide)
    rw [e]; exact re_inj (a := t % 2) (b := 0) (by omega) (by omega)
  have k155 : ∀ (o : Bool) (w : Nat), f_M_shifts_155 K m (nI s) (nI r) (nI t) (lN w) (nI (re_I s)) (b2 h) (nI p) (nI i) (lN (v.testBit (re_I s)).toNat) (lN o.toNat) = K m (nI s) (nI r) (nI t) (lN w) (nI (re_I s)) (b2 (h || (w.testBit (re_I s)).xor (v.testBit (re_I s)))) (b2 o) (nI p) (nI (i + 1)) := by
    intro o w
    simp only [f_M_shifts_155, f_M_shifts_177, zs_nm, re_lhi (show re_I s < 64 by omega), re_lbe, re_b2n, nI_1]
    by_cases g : w.testBit (re_I s) = v.testBit (re_I s)
    · rw [if_pos g, g, Bool.xor_self, Bool.or_false]
    · rw [if_neg g, show (w.testBit (re_I s)).xor (v.testBit (re_I s)) = true by cases hh : w.testBit (re_I s) <;> cases hh' : v.testBit (re_I s) <;> simp_all, Bool.or_true]; rfl
  have k77 : ∀ l : Int32, f_M_shifts_77 K m (nI s) (nI r) (nI t) (lN v) (nI (re_I s)) (b2 h) (nI p) (nI i) (lN (v.testBit (re_I s)).toNat) (lN (v.testBit 0).toNat) l = f_M_shifts_110 K m (nI s) (nI r) (nI t) (lN v) (nI (re_I s)) (b2 h) (nI p) (nI i) (lN (v.testBit (re_I s)).toNat) (lN (v.testBit 0).toNat) l (lN (re_ib t s v).toNat) := by
    intro l
    simp only [f_M_shifts_77, te1, te4, te5]
    by_cases g1 : t = 1
    · rw [if_pos g1, show re_ib t s v = v.testBit (re_I s) by unfold re_ib; rw [if_pos (Or.inl g1)]]
    · rw [if_neg g1]
      by_cases g4 : t = 4
      · rw [if_pos g4, show re_ib t s v = v.testBit (re_I s) by unfold re_ib; rw [if_pos (Or.inr g4)]]
      · rw [if_neg g4]
        by_cases g5 : t = 5
        · rw [if_pos g5, show re_ib t s v = v.testBit 0 by unfold re_ib; rw [if_neg (by omega), if_pos g5]]
        · rw [if_neg g5, show re_ib t s v = false by unfold re_ib; rw [if_neg (by omega), if_neg g5]]; rfl
  simp only [tr, k77]
  by_cases g : t % 2 = 0
  · rw [if_pos g]
    have e2 : zo_lshl (lN v) 1 = lN (v * 2 ^ 1) := re_lshlN v 1 (by decide)
    simp only [f_M_shifts_110, if_neg (show ¬ (1 : Int32) = 0 by decide), e2, re_cutl hs (show v * 2 ^ 1 < 2 ^ 64 by omega), Option.bind_some, f_M_shifts_141, re_lor, k155]
    rw [show (v * 2 ^ 1 % re_W s ||| (re_ib t s v).toNat) = re_nx t s v by unfold re_nx; rw [if_pos g, Nat.mul_comm], show re_ot t s v = v.testBit (re_I s) by unfold re_ot; rw [if_pos g]]
  · rw [if_neg g]
    have e2 : zo_lshr (lN v) 1 = lN (v / 2 ^ 1) := re_lshrN (d := 1) (by omega) (by decide)
    simp only [f_M_shifts_110, if_pos rfl, e2, re_lshlN _ _ (show re_I s < 64 by omega), f_M_shifts_141, re_lor, k155]
    rw [show (v / 2 ^ 1 ||| (re_ib t s v).toNat * 2 ^ re_I s) = re_nx t s v by unfold re_nx; rw [if_neg g], show re_ot t s v = v.testBit 0 by unfold re_ot; rw [if_neg g]]
    simp only [if_true]
set_option maxRecDepth 100000 in
theorem re_shM {m : ZS} {t s p r : Nat} (ht : t < 8) (hs : s < 3) (hp : p < 16) : ∀ k i fuel v o h, i + k = p → k < fuel → v < re_W s → f_M_shifts_44 fuel m (nI s) (nI r) (nI t) (lN v) (nI (re_I s)) (b2 h) (b2 o) (nI p) (nI i) = re_eM m t s r (re_it t s k v o h).1 (re_it t s k v o h).2.1 (re_it t s k v o h).2.2 := by
  have hI := re_Il hs
  intro k
  induction k with
  | zero =>
    intro i fuel v o h h1 h2 h3
    obtain ⟨f, rfl⟩ : ∃ f, fuel = f + 1 := ⟨fuel - 1, by omega⟩
    rw [f_M_shifts_44, if_pos (nI_le (by omega) (by omega))]
    rfl
  | succ k ih =>
    intro i fuel v o h h1 h2 h3
    obtain ⟨f, rfl⟩ : ∃ f, fuel = f + 1 := ⟨fuel - 1, by omega⟩
    rw [f_M_shifts_44, if_neg (nI_ge (by omega) (by omega))]
    simp only [zs_nm, re_lhi (show re_I s < 64 by omega), re_llo]
    rw [re_shN ht hs h3, ih (i + 1) f _ _ _ (by omega) (by omega) (re_nxl hs h3)]
    rfl
set_option maxRecDepth 100000 in
theorem re_itl {t s : Nat} (hs : s < 3) : ∀ k v o h, v < re_W s → (re_it t s k v o h).1 < re_W s := by
  intro k
  induction k with
  | zero => intro v o h hv; exact hv
  | succ k ih => intro v o h hv; exact ih _ _ _ (re_nxl hs hv)
set_option maxRecDepth 100000 in
theorem re_dput {N : Nat} {c m : ZS} (h : re_M N c m) (r : Nat) (D : Int32) : re_M N (zs_up c 2 r D) (zs_up m 2 r D) ∧ re_K c m (zs_up c 2 r D) (zs_up m 2 r D) := by
  obtain ⟨hP, hF, hD, hX, hT⟩ := h
  refine ⟨⟨⟨hP.1, fun j => ?_, hP.2.2.1, hP.2.2.2.1, hP.2.2.2.2⟩, hF, hD, hX, hT⟩, fun k _ => rfl, rfl, rfl, fun _ _ _ => rfl⟩
  show (if j = r then D else m 2 j) = if j = r then D else c 2 j
  rw [hP.2.1]
set_option maxRecDepth 100000 in
theorem re_aput {N : Nat} {c m : ZS} (h : re_M N c m) (r : Nat) (D : Int32) : re_M N (zs_up c 3 r D) (zs_up m 3 r D) ∧ re_K c m (zs_up c 3 r D) (zs_up m 3 r D) := by
  obtain ⟨hP, hF, hD, hX, hT⟩ := h
  refine ⟨⟨⟨hP.1, hP.2.1, fun j => ?_, hP.2.2.2.1, hP.2.2.2.2⟩, hF, hD, hX, hT⟩, fun k _ => rfl, rfl, rfl, fun _ _ _ => rfl⟩
  show (if j = r then D else m 3 j) = if j = r then D else c 3 j
  rw [hP.2.2.1]
set_option maxRecDepth 100000 in
theorem re_shift {N : Nat} {c m : ZS} (h : re_M N c m) (h0 : c 0 10 = 0) {s r t q u : Nat} (hs : s < 3) (hr : r < 8) (ht : t < 8) (hq : q < 8) (hu : u < 2 ^ 32) (e25 : c 0 25 = nI s) (e26 : c 0 26 = nI r) (e27 : c 0 27 = nI t) (e28 : c 0 28 = nI q) (e2 : c 2 r = nI u) : ∃ c' m', f_P_shift c (nI u) = some c' ∧ f_M_shifts m (nI s) (nI r) (nI t) (nI q) = some m' ∧ re_M N c' m' ∧ re_K c m c' m' := by
  obtain ⟨hP, hF, hD, hX, hT⟩ := id h
  have g0 : m 0 15 = 0 := by rw [hT.1, h0]
  obtain ⟨T, a, k, x, n, z, v, cc, r0, r1, r2, r3, r4, r5, r6, r7, r8⟩ := hF
  have hWp := re_Wp s
  have hv0 : u % re_W s < re_W s := Nat.mod_lt _ hWp
  have te4 : (4 : Int32) ≤ nI t ↔ 4 ≤ t := nI_leI (a := 4) (by decide) (by omega)
  have te0 : nI t = 0 ↔ t = 0 := re_inj (a := t) (b := 0) (by omega) (by omega)
  have qe : nI q = 0 ↔ q = 0 := re_inj (a := q) (b := 0) (by omega) (by omega)
  have tr : zo_irem (nI t) 2 = 0 ↔ t % 2 = 0 := by
    have e : zo_irem (nI t) 2 = nI (t % 2) := pk_rem (d := 2) (by omega) (by decide) (by decide)
    rw [e]; exact re_inj (a := t % 2) (b := 0) (by omega) (by omega)
  generalize hp : (if q = 0 then 8 else q) = p
  have hp1 : p < 16 := by rw [← hp]; split <;> omega
  have hw := re_itl (t := t) hs p (u % re_W s) false false hv0
  have hC : f_A_shift c (nI u) (nI s) (nI t) (nI p) = re_eC c t s (re_it t s p (u % re_W s) false false).1 (re_it t s p (u % re_W s) false false).2.1 (re_it t s p (u % re_W s) false false).2.2 := by
    have e := re_shC (c := c) ht hs hp1 p 0 20 (u % re_W s) false false (by omega) (by omega) hv0
    rw [← e]
    simp only [f_A_shift, f_A_shift_17, re_topOf hs, re_maskOf hs, Option.bind_some, tr, zs_nm, re_andW hs]
    by_cases g : t % 2 = 0
    · rw [if_pos g, decide_eq_true g]; rfl
    · rw [if_neg g, decide_eq_false g]; rfl
  have hMm : f_M_shifts_44 20 m (nI s) (nI r) (nI t) (lN (u % re_W s)) (nI (re_I s)) 0 0 (nI p) 0 = re_eM m t s r (re_it t s p (u % re_W s) false false).1 (re_it t s p (u % re_W s) false false).2.1 (re_it t s p (u % re_W s) false false).2.2 := re_shM (m := m) ht hs hp1 p 0 20 (u % re_W s) false false (by omega) (by omega) hv0
  generalize (re_it t s p (u % re_W s) false false).1 = w at hw hC hMm
  generalize (re_it t s p (u % re_W s) false false).2.1 = o at hC hMm
  generalize (re_it t s p (u % re_W s) false false).2.2 = hh at hC hMm
  rw [re_eCv r0 ht hs hw] at hC
  have hWl := re_Wle hs
  have hQ : re_Q c m (zs_up c 0 15 (re_pk T a k (if 4 ≤ t then x else o) (w.testBit (re_I s)) (decide (w = 0)) (if t = 0 then hh else false) o)) (zs_up (zs_up (zs_up (zs_up (zs_up (zs_up (zs_up m 0 7 (b2 (w.testBit (re_I s)))) 0 8 (b2 (decide (w = 0)))) 0 9 0) 0 10 0) 0 9 (b2 (if t = 0 then hh else false))) 0 10 (b2 o)) 0 6 (b2 (if 4 ≤ t then x else o))) := by
    refine ⟨fun i j hj => ?_, fun i j hj => ?_, T, a, k, _, _, _, _, _, rfl, r1, r2, r3, rfl, rfl, rfl, rfl, rfl⟩
    · unfold zs_up; split
      · rw [if_neg (by omega)]
      · rfl
    · by_cases hi : i = 0
      · subst hi; simp [zs_up, show j ≠ 6 by omega, show j ≠ 7 by omega, show j ≠ 8 by omega, show j ≠ 9 by omega, show j ≠ 10 by omega]
      · simp [zs_up, hi]
  have hM1 := hQ.toM h
  have hK1 := hQ.toK
  have eM : re_eM m t s r w o hh = f_M_setD (zs_up (zs_up (zs_up (zs_up (zs_up (zs_up (zs_up m 0 7 (b2 (w.testBit (re_I s)))) 0 8 (b2 (decide (w = 0)))) 0 9 0) 0 10 0) 0 9 (b2 (if t = 0 then hh else false))) 0 10 (b2 o)) 0 6 (b2 (if 4 ≤ t then x else o))) (nI r) (nI s) (lN w) := by
    have ex : ∀ y1 y2 y3 y4 : Int32, (zs_up (zs_up (zs_up (zs_up (zs_up (zs_up m 0 7 y1) 0 8 y2) 0 9 0) 0 10 0) 0 9 y3) 0 10 y4) 0 6 = b2 x := fun _ _ _ _ => r4
    have ey : ∀ F : Option ZS, (F.bind fun s => some s) = F := fun F => by cases F <;> rfl
    unfold re_eM
    rw [re_tells hs (show w < 2 ^ 63 by omega)]
    simp only [Option.bind_some, f_M_shifts_203, f_M_shifts_227, zs_nm, te0, te4, ex, ey]
    by_cases gt : t = 0
    · rw [if_pos gt, if_pos gt, if_neg (by omega), if_neg (by omega)]
    · rw [if_neg gt, if_neg gt]
      by_cases g4 : 4 ≤ t
      · rw [if_pos g4, if_pos g4]; rfl
      · rw [if_neg g4, if_neg g4]; rfl
  generalize hc1 : (zs_up c 0 15 (re_pk T a k (if 4 ≤ t then x else o) (w.testBit (re_I s)) (decide (w = 0)) (if t = 0 then hh else false) o)) = c1 at *
  generalize hm1 : (zs_up (zs_up (zs_up (zs_up (zs_up (zs_up (zs_up m 0 7 (b2 (w.testBit (re_I s)))) 0 8 (b2 (decide (w = 0)))) 0 9 0) 0 10 0) 0 9 (b2 (if t = 0 then hh else false))) 0 10 (b2 o)) 0 6 (b2 (if 4 ≤ t then x else o))) = m1 at *
  obtain ⟨D, p1, p2⟩ := re_put (c := c1) (m := m1) (x := w) (w := w) hr hs rfl (hM1.1.2.1 r) (by rw [hQ.2.1 0 15 (by omega)]; exact g0)
  have hd := re_dput hM1 r D
  refine ⟨zs_up c1 2 r D, zs_up m1 2 r D, ?_, ?_, hd.1, hK1.trans hd.2⟩
  · have f26 : c1 0 26 = nI r := by rw [hK1.1 26 (by decide)]; exact e26
    have f25 : c1 0 25 = nI s := by rw [hK1.1 25 (by decide)]; exact e25
    have key : f_P_shift_22 c (nI u) (nI p) = some (zs_up c1 2 r D) := by
      simp only [f_P_shift_22, e25, e27, hC, Option.bind_some, f_P_put, f26, f25, p1]
    simp only [f_P_shift, e28, qe]
    by_cases gq : q = 0
    · rw [if_pos gq, show (8 : Int32) = nI p by rw [← hp, if_pos gq]; rfl]; exact key
    · rw [if_neg gq, show nI q = nI p by rw [← hp, if_neg gq]]; exact key
  · have e2m : m 2 r = nI u := by rw [hP.2.1, e2]
    simp only [f_M_shifts, re_cl hr, e2m, re_cutn hs hu, Option.bind_some, re_bits hs, zs_nm, nI_pred, f_M_shifts_39]
    have e : ¬ (nI r < 0 ∨ 8 ≤ r) := by have := re_ri hr; rwa [re_cl hr] at this
    rw [if_neg e]
    have fin : f_M_shifts_44 20 m (nI s) (nI r) (nI t) (lN (u % re_W s)) (nI (re_I s)) 0 0 (nI p) 0 = some (zs_up m1 2 r D) := by rw [hMm, eM, p2]
    by_cases gq : q = 0
    · rw [if_pos (qe.mpr gq), show (8 : Int32) = nI p by rw [← hp, if_pos gq]; rfl]; exact fin
    · rw [if_neg (fun h' => gq (qe.mp h')), show nI q = nI p by rw [← hp, if_neg gq]]; exact fin
