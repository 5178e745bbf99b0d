/-! Bits of both widths; sizes: 0, 1, 2 with re_W s the number of values. -/
def re_W (s : Nat) : Nat := 256 ^ 2 ^ s
def re_I (s : Nat) : Nat := 8 * 2 ^ s - 1
theorem re_W0 : re_W 0 = 256 := rfl
theorem re_W1 : re_W 1 = 65536 := rfl
theorem re_W2 : re_W 2 = 4294967296 := rfl
theorem re_s3 {s : Nat} (hs : s < 3) : s = 0 ∨ s = 1 ∨ s = 2 := by omega
theorem re_Wp (s : Nat) : 0 < re_W s := Nat.pow_pos (by decide)
theorem re_Wle {s : Nat} (hs : s < 3) : re_W s ≤ 2 ^ 32 := by rcases re_s3 hs with rfl | rfl | rfl <;> decide
theorem re_WI {s : Nat} (hs : s < 3) : re_W s = 2 ^ (re_I s + 1) := by rcases re_s3 hs with rfl | rfl | rfl <;> decide
theorem re_Il {s : Nat} (hs : s < 3) : re_I s < 32 := by rcases re_s3 hs with rfl | rfl | rfl <;> decide
theorem re_n (n : Nat) : nI n = nI (n % 2 ^ 32) := by
  apply Int32.toBitVec_inj.mp
  rw [re_bv, re_bv]
  apply BitVec.eq_of_toNat_eq
  simp
theorem re_inj {a b : Nat} (ha : a < 2 ^ 32) (hb : b < 2 ^ 32) : nI a = nI b ↔ a = b := by
  refine ⟨fun h => ?_, fun h => by rw [h]⟩
  have := congrArg (fun x : Int32 => x.toBitVec.toNat) h
  simp only [pk_tn ha, pk_tn hb] at this
  exact this
theorem re_andW {s : Nat} (hs : s < 3) (n : Nat) : nI n &&& nI (re_W s - 1) = nI (n % re_W s) := by
  rw [re_n n]
  have hm : n % 2 ^ 32 < 2 ^ 32 := Nat.mod_lt _ (by decide)
  rcases re_s3 hs with rfl | rfl | rfl
  · rw [pk_andN hm (m := nI (re_W 0 - 1)) 8 (by decide), re_W0, Nat.mod_mod_of_dvd n (show 2 ^ 8 ∣ 2 ^ 32 by decide)]
  · rw [pk_andN hm (m := nI (re_W 1 - 1)) 16 (by decide), re_W1, Nat.mod_mod_of_dvd n (show 2 ^ 16 ∣ 2 ^ 32 by decide)]
  · rw [pk_andN hm (m := nI (re_W 2 - 1)) 32 (by decide), re_W2, Nat.mod_mod_of_dvd n (show 2 ^ 32 ∣ 2 ^ 32 by decide)]
theorem re_maskOf {c : ZS} {s : Nat} (hs : s < 3) : f_F_maskOf c (nI s) = some (nI (re_W s - 1), c) := by
  rcases re_s3 hs with rfl | rfl | rfl <;> rfl
theorem re_topOf {c : ZS} {s : Nat} (hs : s < 3) : f_F_topBitOf c (nI s) = some (nI (re_W s / 2), c) := by
  rcases re_s3 hs with rfl | rfl | rfl <;> rfl
theorem re_top (x : Int32) {s : Nat} (hs : s < 3) : x &&& nI (re_W s / 2) = 0 ↔ x.toBitVec.getLsbD (re_I s) = false := by
  rcases re_s3 hs with rfl | rfl | rfl
  · rw [re_mask x _ 7 (by decide)]
    show _ ↔ x.toBitVec.getLsbD 7 = false
    cases x.toBitVec.getLsbD 7 <;> decide
  · rw [re_mask x _ 15 (by decide)]
    show _ ↔ x.toBitVec.getLsbD 15 = false
    cases x.toBitVec.getLsbD 15 <;> decide
  · rw [re_mask x _ 31 (by decide)]
    show _ ↔ x.toBitVec.getLsbD 31 = false
    cases x.toBitVec.getLsbD 31 <;> decide
theorem re_tb {n i : Nat} (h : i < 32) : (nI n).toBitVec.getLsbD i = n.testBit i := by
  rw [re_bv, BitVec.getLsbD_ofNat]; simp [h]
theorem re_lbv (n : Nat) : (lN n).toBitVec = BitVec.ofNat 64 n := rfl
theorem re_ltb {n i : Nat} (h : i < 64) : (lN n).toBitVec.getLsbD i = n.testBit i := by
  rw [re_lbv, BitVec.getLsbD_ofNat]; simp [h]
theorem re_lsm : ∀ i, i < 64 → (((nI i).toInt64 &&& 63).toBitVec.smod 64).toNat = i := by decide +kernel
theorem re_lshrb (w : Int64) (i j : Nat) (hi : i < 64) (hj : j < 64) : (zo_lshr w (nI i)).toBitVec.getLsbD j = if i + j < 64 then w.toBitVec.getLsbD (i + j) else w.toBitVec.getLsbD 63 := by
  unfold zo_lshr
  rw [Int64.toBitVec_shiftRight]
  show (w.toBitVec.sshiftRight (((nI i).toInt64 &&& 63).toBitVec.smod 64).toNat).getLsbD j = _
  rw [re_lsm i hi, BitVec.getLsbD_sshiftRight, BitVec.msb_eq_getLsbD_last]
  simp [hj]
theorem re_lshlb (w : Int64) (i j : Nat) (hi : i < 64) (hj : j < 64) : (zo_lshl w (nI i)).toBitVec.getLsbD j = (decide (i ≤ j) && w.toBitVec.getLsbD (j - i)) := by
  unfold zo_lshl
  rw [Int64.toBitVec_shiftLeft]
  show (w.toBitVec <<< (((nI i).toInt64 &&& 63).toBitVec.smod 64).toNat).getLsbD j = _
  rw [re_lsm i hi, BitVec.getLsbD_shiftLeft]
  rcases Nat.lt_or_ge j i with h | h
  · simp [h, Nat.not_le.mpr h]
  · simp [hj, h, Nat.not_lt.mpr h]
theorem re_land1 (w : Int64) : (w &&& 1).toInt32 = b2 (w.toBitVec.getLsbD 0) := by
  have e : w &&& 1 = if w.toBitVec.getLsbD 0 then 1 else 0 := by
    apply Int64.toBitVec_inj.mp
    rw [Int64.toBitVec_and, show (1 : Int64).toBitVec = BitVec.twoPow 64 0 by decide, BitVec.and_twoPow]
    split <;> rfl
  rw [e]
  cases w.toBitVec.getLsbD 0 <;> rfl
theorem re_l1 (w : Int64) (i : Nat) (hi : i < 64) : ((zo_lshr w (nI i)) &&& 1).toInt32 = b2 (w.toBitVec.getLsbD i) := by
  rw [re_land1, re_lshrb w i 0 hi (by decide)]
  simp [hi]
theorem re_bits {m : ZS} {s : Nat} (hs : s < 3) : f_M_bits m (nI s) = some (nI (re_I s + 1), m) := by
  rcases re_s3 hs with rfl | rfl | rfl <;> rfl
theorem re_whole {m : ZS} {s : Nat} (hs : s < 3) : f_M_whole m (nI s) = some (lN (re_W s - 1), m) := by
  rcases re_s3 hs with rfl | rfl | rfl <;> rfl
theorem re_lof (x : Int64) : x = lN x.toBitVec.toNat := by
  apply Int64.toBitVec_inj.mp
  rw [re_lbv]; simp
theorem re_landW {s : Nat} (hs : s < 3) (x : Int64) : x &&& lN (re_W s - 1) = lN (x.toBitVec.toNat % re_W s) := by
  apply Int64.toBitVec_inj.mp
  rw [Int64.toBitVec_and, re_lbv, re_lbv]
  apply BitVec.eq_of_toNat_eq
  rw [BitVec.toNat_and]
  simp only [BitVec.toNat_ofNat]
  have hw := re_Wle hs
  have hp := re_Wp s
  rw [Nat.mod_eq_of_lt (show re_W s - 1 < 2 ^ 64 by omega), re_WI hs, Nat.and_two_pow_sub_one_eq_mod, ← re_WI hs]
  have := Nat.mod_lt x.toBitVec.toNat hp
  rw [Nat.mod_eq_of_lt (show x.toBitVec.toNat % re_W s < 2 ^ 64 by omega)]
theorem re_cut {m : ZS} {s : Nat} (hs : s < 3) (x : Int64) : f_M_cut m x (nI s) = some (lN (x.toBitVec.toNat % re_W s), m) := by
  simp only [f_M_cut, re_whole hs, Option.bind_some, re_landW hs]
theorem re_ltn {n : Nat} (h : n < 2 ^ 64) : (lN n).toBitVec.toNat = n := by
  rw [re_lbv, BitVec.toNat_ofNat, Nat.mod_eq_of_lt h]
theorem re_ntn {u : Nat} (h : u < 2 ^ 32) {s : Nat} (hs : s < 3) : (nI u).toInt64.toBitVec.toNat % re_W s = u % re_W s := by
  have e : (nI u).toInt64.toBitVec.toNat % 2 ^ 32 = u := by
    have e1 := congrArg (fun x : Int64 => x.toBitVec.toNat) (re_u h)
    simp only [Int64.toBitVec_and, re_ltn (show u < 2 ^ 64 by omega), BitVec.toNat_and] at e1
    rw [show (4294967295 : Int64).toBitVec.toNat = 2 ^ 32 - 1 by decide, Nat.and_two_pow_sub_one_eq_mod] at e1
    exact e1
  generalize (nI u).toInt64.toBitVec.toNat = t at e ⊢
  rcases re_s3 hs with rfl | rfl | rfl
  · rw [re_W0]; omega
  · rw [re_W1]; omega
  · rw [re_W2]; omega
theorem re_cutn {m : ZS} {s : Nat} (hs : s < 3) {u : Nat} (h : u < 2 ^ 32) : f_M_cut m (nI u).toInt64 (nI s) = some (lN (u % re_W s), m) := by
  rw [re_cut hs, re_ntn h hs]
theorem re_cutl {m : ZS} {s : Nat} (hs : s < 3) {u : Nat} (h : u < 2 ^ 64) : f_M_cut m (lN u) (nI s) = some (lN (u % re_W s), m) := by
  rw [re_cut hs, re_ltn h]
theorem re_nsub {a b : Nat} (hb : b ≤ 2 ^ 32) : nI a - nI b = nI (a + (2 ^ 32 - b)) := by
  have h := pk_sub (a := a + 2 ^ 32) (b := b) (by omega)
  rw [show a + 2 ^ 32 - b = a + (2 ^ 32 - b) by omega] at h
  have e : nI (a + 2 ^ 32) = nI a := by
    rw [re_n (a + 2 ^ 32), re_n a, Nat.add_mod_right]
  rw [← h, e]
theorem re_x31 {a : Nat} (h : a < 2 ^ 32) : a ^^^ 2 ^ 31 = (a + 2 ^ 31) % 2 ^ 32 := by
  have h1 : (a ^^^ 2 ^ 31) % 2 ^ 31 = a % 2 ^ 31 := by rw [Nat.xor_mod_two_pow, Nat.mod_self, Nat.xor_zero]
  have h2 : (a ^^^ 2 ^ 31) / 2 ^ 31 = (a / 2 ^ 31) ^^^ 1 := by rw [Nat.xor_div_two_pow, Nat.div_self (Nat.two_pow_pos 31)]
  have h3 : a / 2 ^ 31 = 0 ∨ a / 2 ^ 31 = 1 := by omega
  generalize a ^^^ 2 ^ 31 = t at h1 h2
  rcases h3 with h3 | h3
  · rw [h3] at h2
    have h2 : t / 2 ^ 31 = 1 := h2
    omega
  · rw [h3] at h2
    have h2 : t / 2 ^ 31 = 0 := h2
    omega
theorem re_xti {a : Nat} (h : a < 2 ^ 32) : (nI a ^^^ (-2147483648)).toInt = (a : Int) - 2 ^ 31 := by
  have e : nI a ^^^ (-2147483648) = nI ((a + 2 ^ 31) % 2 ^ 32) := by
    apply Int32.toBitVec_inj.mp
    rw [Int32.toBitVec_xor, re_bv, re_bv, show (-2147483648 : Int32).toBitVec = BitVec.ofNat 32 (2 ^ 31) by decide]
    apply BitVec.eq_of_toNat_eq
    rw [BitVec.toNat_xor]
    simp only [BitVec.toNat_ofNat]
    rw [Nat.mod_eq_of_lt h, Nat.mod_eq_of_lt (show 2 ^ 31 < 2 ^ 32 by decide), re_x31 h, Nat.mod_mod]
  rw [e]
  by_cases g : a < 2 ^ 31
  · rw [re_neg (by omega) (Nat.mod_lt _ (by decide))]; omega
  · rw [nI_toInt (by omega)]; omega
theorem re_below {c : ZS} {a b : Nat} (ha : a < 2 ^ 32) (hb : b < 2 ^ 32) : f_A_isBelow c (nI a) (nI b) = some (b2 (decide (a < b)), c) := by
  have e : (nI b ^^^ (-2147483648)) ≤ (nI a ^^^ (-2147483648)) ↔ ¬ a < b := by
    rw [Int32.le_iff_toInt_le, re_xti ha, re_xti hb]; omega
  simp only [f_A_isBelow, e]
  by_cases g : a < b
  · rw [if_neg (fun h => h g), decide_eq_true g]; rfl
  · rw [if_pos g, decide_eq_false g]; rfl
theorem re_d32 (w : Int64) : w.toInt32.toBitVec = w.toBitVec.setWidth 32 := by
  rw [Int64.toBitVec_toInt32]; exact BitVec.signExtend_eq_setWidth_of_le _ (by decide)
theorem re_d16 (w : Int32) : w.toInt16.toBitVec = w.toBitVec.setWidth 16 := by
  rw [Int32.toBitVec_toInt16]; exact BitVec.signExtend_eq_setWidth_of_le _ (by decide)
theorem re_d8 (w : Int32) : w.toInt8.toBitVec = w.toBitVec.setWidth 8 := by
  rw [Int32.toBitVec_toInt8]; exact BitVec.signExtend_eq_setWidth_of_le _ (by decide)
def re_sx (s : Nat) (x : Int32) : Int32 := if s = 0 then x.toInt8.toInt32 else if s = 1 then x.toInt16.toInt32 else x
theorem re_withSign {c : ZS} {s : Nat} (hs : s < 3) (x : Int32) : f_F_withSign c x (nI s) = some (re_sx s x, c) := by
  rcases re_s3 hs with rfl | rfl | rfl <;> rfl
theorem re_sx16 (w : Int64) : (zo_lshr (zo_lshl w 48) 48).toInt32 = w.toInt32.toInt16.toInt32 := by
  show (zo_lshr (zo_lshl w (nI 48)) (nI 48)).toInt32 = _
  apply Int32.toBitVec_inj.mp
  rw [re_d32, Int16.toBitVec_toInt32, re_d16, re_d32]
  apply BitVec.eq_of_getLsbD_eq
  intro i hi
  rw [BitVec.getLsbD_setWidth, BitVec.getLsbD_signExtend, re_lshrb _ 48 i (by decide) (by omega), BitVec.msb_eq_getLsbD_last]
  simp only [BitVec.getLsbD_setWidth]
  rw [re_lshlb _ 48 63 (by decide) (by decide)]
  by_cases g : i < 16
  · rw [if_pos (by omega), re_lshlb _ 48 (48 + i) (by decide) (by omega)]
    simp [hi, g, show 48 + i - 48 = i by omega]
  · rw [if_neg (by omega)]
    simp [hi, g]
theorem re_sx8 (w : Int64) : (zo_lshr (zo_lshl w 56) 56).toInt32 = w.toInt32.toInt8.toInt32 := by
  show (zo_lshr (zo_lshl w (nI 56)) (nI 56)).toInt32 = _
  apply Int32.toBitVec_inj.mp
  rw [re_d32, Int8.toBitVec_toInt32, re_d8, re_d32]
  apply BitVec.eq_of_getLsbD_eq
  intro i hi
  rw [BitVec.getLsbD_setWidth, BitVec.getLsbD_signExtend, re_lshrb _ 56 i (by decide) (by omega), BitVec.msb_eq_getLsbD_last]
  simp only [BitVec.getLsbD_setWidth]
  rw [re_lshlb _ 56 63 (by decide) (by decide)]
  by_cases g : i < 8
  · rw [if_pos (by omega), re_lshlb _ 56 (56 + i) (by decide) (by omega)]
    simp [hi, g, show 56 + i - 56 = i by omega]
  · rw [if_neg (by omega)]
    simp [hi, g]
theorem re_signed {m : ZS} {s : Nat} (hs : s < 3) (w : Int64) : f_M_signed m w (nI s) = some (re_sx s w.toInt32, m) := by
  rcases re_s3 hs with rfl | rfl | rfl
  · show some ((zo_lshr (zo_lshl w 56) 56).toInt32, m) = _
    rw [re_sx8]; rfl
  · show some ((zo_lshr (zo_lshl w 48) 48).toInt32, m) = _
    rw [re_sx16]; rfl
  · rfl
theorem re_i64 (x : Int32) : x.toInt64.toInt32 = x := by simp
theorem re_sxm (u : Nat) : (nI (u % 65536)).toInt16.toInt32 = (nI u).toInt16.toInt32 := by
  congr 1
  apply Int16.toBitVec_inj.mp
  rw [re_d16, re_d16, re_bv, re_bv]
  apply BitVec.eq_of_toNat_eq
  simp only [BitVec.toNat_setWidth, BitVec.toNat_ofNat]
  omega
theorem re_b8 (x : Int32) : x.toInt8.toInt32 &&& 255 = x &&& 255 := by
  apply Int32.toBitVec_inj.mp
  rw [Int32.toBitVec_and, Int32.toBitVec_and, Int8.toBitVec_toInt32, re_d8]
  apply BitVec.eq_of_getLsbD_eq
  intro i hi
  have hm : ∀ i < 32, 8 ≤ i → (255 : Int32).toBitVec.getLsbD i = false := by decide
  rw [BitVec.getLsbD_and, BitVec.getLsbD_and, BitVec.getLsbD_signExtend, BitVec.getLsbD_setWidth]
  by_cases g : i < 8
  · simp [hi, g]
  · rw [hm i hi (by omega)]; simp
