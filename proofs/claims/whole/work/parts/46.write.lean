/-! Writing. -/
def re_Z (N : Nat) (n s : Nat) (d : Int32) (c m c' m' : ZS) : Prop := re_D N c' m' ∧ (∀ j, m' 1 j = c' 1 j &&& 255) ∧ (∀ k, 12 < k → c' 0 k = c 0 k) ∧ (∀ k, (k < 15 ∨ 17 < k) → k < 22 → m' 0 k = m 0 k) ∧ (∀ i j, 2 ≤ i → c' i j = c i j) ∧ (∀ i j, 2 ≤ i → m' i j = m i j) ∧
  ((¬ re_ok n s = 0 ∧ c' 0 10 = c 0 10 ∧ m' 0 15 = m 0 15) ∨ (re_ok n s = 0 ∧ c' 0 10 = re_er n s ∧ c' 0 11 = nI n ∧ c' 0 12 = d ∧ m' 0 15 = re_er n s ∧ m' 0 16 = nI n ∧ m' 0 17 = d))
theorem re_A.z {N n s : Nat} {d : Int32} {c m c' m' : ZS} (h1m : ∀ j, m 1 j = c 1 j &&& 255) (h : re_A N n s d c m c' m') : re_Z N n s d c m c' m' := by
  obtain ⟨a1, a2, a3, a4, a5, a6⟩ := h
  exact ⟨a1, fun j => by rw [a5 1 j (by decide), a4 1 j (by decide)]; exact h1m j, fun k hk => a2 k (by omega) (by omega), fun k hk h2 => a3 k (by omega) (by omega), fun i j hi => a4 i j (by omega), fun i j hi => a5 i j (by omega), a6⟩
theorem re_shr8 {x : Int32} {U : Nat} (hx : x.toBitVec.toNat = U) : (zo_shr x 8).toBitVec.toNat % 2 ^ 24 = U / 256 := by
  have h1 : (zo_shr x 8).toInt = x.toInt >>> 8 := pk_shr x (8 &&& 31) 8 (by decide)
  have h2 : x.toInt = if 2 * U < 2 ^ 32 then (U : Int) else (U : Int) - (2 ^ 32 : Nat) := by
    rw [← hx]; exact BitVec.toInt_eq_toNat_cond _
  have h3 : (zo_shr x 8).toInt = if 2 * (zo_shr x 8).toBitVec.toNat < 2 ^ 32 then ((zo_shr x 8).toBitVec.toNat : Int) else ((zo_shr x 8).toBitVec.toNat : Int) - (2 ^ 32 : Nat) := BitVec.toInt_eq_toNat_cond _
  have hU : U < 2 ^ 32 := by rw [← hx]; exact x.toBitVec.isLt
  have ht : (zo_shr x 8).toBitVec.toNat < 2 ^ 32 := (zo_shr x 8).toBitVec.isLt
  generalize (zo_shr x 8).toBitVec.toNat = t at *
  rw [h1, Int.shiftRight_eq_div_pow, h2] at h3
  have e : ((2 ^ 8 : Nat) : Int) = 256 := rfl
  rw [e] at h3
  split at h3 <;> split at h3 <;> omega
theorem re_byte {x U e : Nat} : nI U &&& 255 = nI (U % 256) := re_andW (s := 0) (by decide) U
theorem re_wrB {n : Nat} : ∀ k fuel (c : ZS) (x : Int32) (U : Nat), k < fuel → n + k ≤ 1024 → k ≤ 4 → x.toBitVec.toNat % 256 ^ k = U % 256 ^ k → ∃ c', f_B_write_38 fuel c (nI n) x (nI k - 1) = some c' ∧ (∀ j, j < k → c' 1 (n + j) &&& 255 = nI (U / 256 ^ (k - 1 - j) % 256)) ∧ (∀ j, (j < n ∨ n + k ≤ j) → c' 1 j = c 1 j) ∧ (∀ i j, i ≠ 1 → c' i j = c i j) := by
  intro k
  induction k with
  | zero =>
    intro fuel c x U hf hn hk hU
    obtain ⟨f, rfl⟩ : ∃ f, fuel = f + 1 := ⟨fuel - 1, by omega⟩
    refine ⟨c, ?_, fun j hj => absurd hj (by omega), fun _ _ => rfl, fun _ _ _ => rfl⟩
    rw [f_B_write_38, if_pos (show nI 0 - 1 < 0 by decide)]
  | succ k ih =>
    intro fuel c x U hf hn hk hU
    obtain ⟨f, rfl⟩ : ∃ f, fuel = f + 1 := ⟨fuel - 1, by omega⟩
    rw [f_B_write_38, nI_pred, if_neg (nI_pos (by omega))]
    simp only [zs_nm]
    rw [nI_add, if_neg (nI_in (show n + k < 1024 by omega) (by decide)), nI_clamp (by omega)]
    have e1 : nI k + (-1) = nI k - 1 := by
      rw [Int32.sub_eq_add_neg]
    rw [e1]
    have hx2 : (zo_shr x 8).toBitVec.toNat % 256 ^ k = U / 256 % 256 ^ k := by
      have h1 := re_shr8 (x := x) rfl
      rw [Nat.pow_succ, Nat.mul_comm] at hU
      have h2 : x.toBitVec.toNat / 256 % 256 ^ k = U / 256 % 256 ^ k := by
        rw [← Nat.mod_mul_right_div_self, ← Nat.mod_mul_right_div_self, hU]
      rw [← h2, ← h1]
      have hd : 256 ^ k ∣ 2 ^ 24 := by
        rcases (show k = 0 ∨ k = 1 ∨ k = 2 ∨ k = 3 by omega) with rfl | rfl | rfl | rfl <;> decide
      rw [Nat.mod_mod_of_dvd _ hd]
    obtain ⟨c', h1, h2, h3, h4⟩ := ih f (zs_up c 1 (n + k) (x.toInt8.toInt32).toInt8.toInt32) (zo_shr x 8) (U / 256) (by omega) (by omega) (by omega) hx2
    refine ⟨c', h1, fun j hj => ?_, fun j hj => ?_, fun i j hi => ?_⟩
    · by_cases g : j = k
      · subst g
        rw [h3 (n + j) (by omega)]
        show (if n + j = n + j then (x.toInt8.toInt32).toInt8.toInt32 else _) &&& 255 = _
        rw [if_pos rfl, re_b8, re_b8, pk_and x 8 (by decide)]
        congr 1
        rw [show j + 1 - 1 - j = 0 by omega, Nat.pow_zero, Nat.div_one]
        have hd : 256 ∣ 256 ^ (j + 1) := ⟨256 ^ j, by rw [Nat.pow_succ, Nat.mul_comm]⟩
        have h5 := congrArg (· % 256) hU
        simp only [Nat.mod_mod_of_dvd _ hd] at h5
        exact h5
      · rw [h2 j (by omega), Nat.div_div_eq_div_mul]
        rw [show k + 1 - 1 - j = (k - 1 - j) + 1 by omega, Nat.pow_succ, Nat.mul_comm]
    · rw [h3 j (by omega)]
      show (if j = n + k then _ else c 1 j) = _
      rw [if_neg (by omega)]
    · rw [h4 i j hi]
      simp [zs_up, hi]
theorem re_lshrN {w d : Nat} (hw : w < 2 ^ 62) (hd : d < 64) : zo_lshr (lN w) (nI d) = lN (w / 2 ^ d) := by
  have hq : w / 2 ^ d ≤ w := Nat.div_le_self _ _
  apply Int64.toInt_inj.mp
  have e : (zo_lshr (lN w) (nI d)).toInt = (lN w).toInt >>> d := by
    have := re_lsm d hd
    conv => rhs; rw [← this]
    exact BitVec.toInt_sshiftRight ..
  rw [e, Int.shiftRight_eq_div_pow, pk_lT (by omega), pk_lT (by omega)]
  rfl
theorem re_land8 {w : Nat} (hw : w < 2 ^ 64) : lN w &&& 255 = lN (w % 256) := by
  have := re_landW (s := 0) (by decide) (lN w)
  rw [re_ltn hw] at this
  exact this
theorem re_wrM {n s cnt w : Nat} (hs : zo_shl 1 (nI s) = nI cnt) (hw : w < 2 ^ 62) (hn : n + cnt ≤ 1024) (hc : cnt ≤ 4) : ∀ k i fuel (m : ZS), i + k = cnt → k < fuel → ∃ m', f_M_write_35 fuel m (nI n) (nI s) (lN w) (nI 1) (nI i) = some m' ∧ (∀ j, i ≤ j → j < cnt → m' 1 (n + j) = nI (w / 256 ^ (cnt - 1 - j) % 256)) ∧ (∀ j, (j < n + i ∨ n + cnt ≤ j) → m' 1 j = m 1 j) ∧ (∀ i j, i ≠ 1 → m' i j = m i j) := by
  intro k
  induction k with
  | zero =>
    intro i fuel m h1 h2
    obtain ⟨f, rfl⟩ : ∃ f, fuel = f + 1 := ⟨fuel - 1, by omega⟩
    refine ⟨m, ?_, fun j h3 h4 => absurd h3 (by omega), fun _ _ => rfl, fun _ _ _ => rfl⟩
    rw [f_M_write_35]
    simp only [f_M_bytes, Option.bind_some, hs]
    rw [if_pos (nI_le (show cnt ≤ i by omega) (by omega))]
  | succ k ih =>
    intro i fuel m h1 h2
    obtain ⟨f, rfl⟩ : ∃ f, fuel = f + 1 := ⟨fuel - 1, by omega⟩
    have ev : ((zo_lshr (lN w) (8 * ((nI cnt - 1) - nI i))) &&& 255).toInt32 = nI (w / 256 ^ (cnt - 1 - i) % 256) := by
      have e1 : nI cnt - 1 = nI (cnt - 1) := by
        have := nI_pred (cnt - 1)
        rw [show cnt - 1 + 1 = cnt by omega] at this
        exact this
      have e2 : (8 : Int32) * nI (cnt - 1 - i) = nI (8 * (cnt - 1 - i)) := pk_mul 8 _
      have hq : w / 2 ^ (8 * (cnt - 1 - i)) ≤ w := Nat.div_le_self _ _
      rw [e1, pk_sub (by omega), e2, re_lshrN hw (by omega), re_land8 (by omega), lN_i, Nat.pow_mul]
    rw [f_M_write_35]
    simp only [f_M_bytes, Option.bind_some, hs, zs_nm]
    rw [if_neg (nI_ge (show i < cnt by omega) (by omega)), if_pos (show nI 1 = 1 from rfl), nI_add, if_neg (nI_in (show n + i < 1024 by omega) (by decide)), nI_clamp (by omega), ev, nI_1]
    obtain ⟨m', h3, h4, h5, h6⟩ := ih (i + 1) f (zs_up m 1 (n + i) (nI (w / 256 ^ (cnt - 1 - i) % 256))) (by omega) (by omega)
    refine ⟨m', h3, fun j h7 h8 => ?_, fun j h7 => ?_, fun a j h7 => ?_⟩
    · by_cases g : j = i
      · subst g
        rw [h5 (n + j) (by omega)]
        show (if n + j = n + j then _ else _) = _
        rw [if_pos rfl]
      · exact h4 j (by omega) h8
    · rw [h5 j (by omega)]
      show (if j = n + i then _ else m 1 j) = _
      rw [if_neg (by omega)]
    · rw [h6 a j h7]
      simp [zs_up, h7]
theorem re_digit {U w e cnt : Nat} (h : U % 256 ^ cnt = w % 256 ^ cnt) (he : e < cnt) : U / 256 ^ e % 256 = w / 256 ^ e % 256 := by
  rw [← Nat.mod_mul_right_div_self, ← Nat.mod_mul_right_div_self, ← Nat.pow_succ]
  have hd : 256 ^ (e + 1) ∣ 256 ^ cnt := Nat.pow_dvd_pow 256 he
  have h5 := congrArg (· % 256 ^ (e + 1)) h
  simp only [Nat.mod_mod_of_dvd _ hd] at h5
  rw [h5]
theorem re_and255 (x : Int32) (k : Int32) (hk : (255 : Int32) &&& k = k) : (x &&& 255) &&& k = x &&& k := by
  rw [Int32.and_assoc, hk]
theorem re_sdev {N : Nat} {c m : ZS} {n x b : Nat} (hD : re_D N c m) (h1 : 61440 ≤ n) (h2 : n ≤ 61443) (hb : b < 256) (hx : nI x &&& 255 = nI b) : ∃ (c' m' : ZS), f_D_writeByte c (nI n) (nI x) = some c' ∧ f_M_setDevice m (nI n - 61440) (nI b) = some m' ∧ re_D N c' m' ∧ (∀ k, 10 ≤ k → c' 0 k = c 0 k) ∧ (∀ k, k < 22 → m' 0 k = m 0 k) ∧ (∀ i j, 1 ≤ i → c' i j = c i j) ∧ (∀ i j, 1 ≤ i → m' i j = m i j) := by
  have x1 : nI x &&& 1 = nI b &&& 1 := by rw [← hx, re_and255 _ 1 (by decide)]
  have x2 : nI x &&& 2 = nI b &&& 2 := by rw [← hx, re_and255 _ 2 (by decide)]
  have hb1 : nI b &&& 1 = 0 ∨ nI b &&& 1 = 1 := by
    rw [re_mask _ 1 0 (by decide)]; split <;> simp
  obtain ⟨d1, d2, d3, d4, d5, d6, d7, d8, d9, d10⟩ := id hD
  simp only [f_D_writeByte, f_D_writeByte_11, f_D_writeByte_64, f_D_writeByte_90, f_D_writeByte_109, f_D_writeByte_110, f_D_writeByte_157, f_D_writeByte_158, f_M_setDevice, f_M_setDevice_21, f_M_setDevice_45, f_M_setDevice_66, f_M_setDevice_67, f_M_setDevice_100, f_M_setDevice_123, f_M_setDevice_124, zs_nm, x1, x2, hx]
  rcases (show n = 61440 ∨ n = 61441 ∨ n = 61442 ∨ n = 61443 by omega) with rfl | rfl | rfl | rfl
  · have e1 : nI 61440 = 61440 := rfl
    have g1 : nI 61440 - 61440 = 0 := by decide
    simp only [if_pos e1, if_pos g1]
    by_cases g : nI b = 0
    · simp only [if_pos g]
      have q : ∀ (P : Prop) [Decidable P], (if P then some (zs_up (zs_up c 0 0 256) 0 1 ((zs_up c 0 0 256) 0 0)) else some (zs_up (zs_up c 0 0 256) 0 1 ((zs_up c 0 0 256) 0 0))) = some (zs_up (zs_up c 0 0 256) 0 1 ((zs_up c 0 0 256) 0 0)) := by intro P _; split <;> rfl
      rw [q]
      refine ⟨_, _, rfl, rfl, ⟨?_, rfl, d3, d4, d5, d6, d7, d8, d9, d10⟩, fun k hk => ?_, fun k hk => ?_, fun i j hi => ?_, fun i j hi => ?_⟩
      · show (256 : Int32) = if nI b = 0 then 256 else nI b
        rw [if_pos g]
      · simp [zs_up, show k ≠ 0 by omega, show k ≠ 1 by omega]
      · simp [zs_up, show k ≠ 22 by omega, show k ≠ 23 by omega]
      · simp [zs_up, show i ≠ 0 by omega]
      · simp [zs_up, show i ≠ 0 by omega]
    · simp only [if_neg g]
      have q : ∀ (P : Prop) [Decidable P], (if P then some (zs_up (zs_up c 0 0 (nI b)) 0 1 ((zs_up c 0 0 (nI b)) 0 0)) else some (zs_up (zs_up c 0 0 (nI b)) 0 1 ((zs_up c 0 0 (nI b)) 0 0))) = some (zs_up (zs_up c 0 0 (nI b)) 0 1 ((zs_up c 0 0 (nI b)) 0 0)) := by intro P _; split <;> rfl
      rw [q]
      refine ⟨_, _, rfl, rfl, ⟨?_, rfl, d3, d4, d5, d6, d7, d8, d9, d10⟩, fun k hk => ?_, fun k hk => ?_, fun i j hi => ?_, fun i j hi => ?_⟩
      · show nI b = if nI b = 0 then 256 else nI b
        rw [if_neg g]
      · simp [zs_up, show k ≠ 0 by omega, show k ≠ 1 by omega]
      · simp [zs_up, show k ≠ 22 by omega, show k ≠ 23 by omega]
      · simp [zs_up, show i ≠ 0 by omega]
      · simp [zs_up, show i ≠ 0 by omega]
  · have e1 : ¬ nI 61441 = 61440 := by decide
    have e2 : nI 61441 = 61441 := rfl
    have g1 : ¬ nI 61441 - 61440 = 0 := by decide
    have g2 : nI 61441 - 61440 = 1 := by decide
    have z3 : (zs_up m 0 24 0) 0 25 = m 0 25 := rfl
    have z4 : (zs_up m 0 24 1) 0 25 = m 0 25 := rfl
    have z5 : (zs_up c 0 2 0) 0 3 = c 0 3 := rfl
    have z6 : (zs_up c 0 2 1) 0 3 = c 0 3 := rfl
    simp only [if_neg e1, if_pos e2, if_neg g1, if_pos g2, z3, z4, z5, z6, d4.1]
    have t0 : ¬ ¬ ((0 : Int32) = 0 ∨ (0 : Int32) = 1) := by decide
    have t1 : ¬ ¬ ((1 : Int32) = 0 ∨ (1 : Int32) = 1) := by decide
    have u0 : ¬ (1 : Int32) = 0 := by decide
    have u1 : ¬ (0 : Int32) = 1 := by decide
    rcases hb1 with b1 | b1 <;> rcases d4.2 with q4 | q4 <;> by_cases b3 : nI b &&& 2 = 0 <;> simp only [b1, q4, b3, if_neg t0, if_neg t1, if_neg u0, if_neg u1, if_true, if_false]
    all_goals
      refine ⟨_, _, rfl, rfl, ⟨d1, d2, ⟨rfl, ?_⟩, ⟨rfl, ?_⟩, d5, d6, d7, d8, d9, d10⟩, fun k hk => ?_, fun k hk => ?_, fun i j hi => ?_, fun i j hi => ?_⟩
      · first | exact Or.inl rfl | exact Or.inr rfl
      · first | exact Or.inl rfl | exact Or.inr rfl
      · simp [zs_up, show k ≠ 2 by omega, show k ≠ 3 by omega]
      · simp [zs_up, show k ≠ 24 by omega, show k ≠ 25 by omega]
      · simp [zs_up, show i ≠ 0 by omega]
      · simp [zs_up, show i ≠ 0 by omega]
  · have e1 : ¬ nI 61442 = 61440 := by decide
    have e2 : ¬ nI 61442 = 61441 := by decide
    have e3 : nI 61442 = 61442 := rfl
    have g1 : ¬ nI 61442 - 61440 = 0 := by decide
    have g2 : ¬ nI 61442 - 61440 = 1 := by decide
    have g3 : nI 61442 - 61440 = 2 := by decide
    have g4 : ¬ nI 61442 - 61440 = 3 := by decide
    simp only [if_neg e1, if_neg e2, if_pos e3, if_neg g1, if_neg g2, if_pos g3, if_neg g4]
    rcases d7 with ⟨l1, l2⟩ | ⟨l1, l2, l3, l4⟩
    · simp only [if_pos l1, if_pos l2]
      have q : ∀ (P : Prop) [Decidable P], (if P then some (zs_up (zs_up c 0 7 8) 0 8 (nI b)) else some (zs_up (zs_up c 0 7 8) 0 8 (nI b))) = some (zs_up (zs_up c 0 7 8) 0 8 (nI b)) := by intro P _; split <;> rfl
      rw [q]
      refine ⟨_, _, rfl, rfl, ⟨d1, d2, d3, d4, d5, d6, Or.inr ⟨(by show ¬ (8 : Int32) = 0; decide), rfl, ⟨b, hb, rfl⟩, rfl⟩, d8, d9, d10⟩, fun k hk => ?_, fun k hk => ?_, fun i j hi => ?_, fun i j hi => ?_⟩
      · simp [zs_up, show k ≠ 7 by omega, show k ≠ 8 by omega]
      · simp [zs_up, show k ≠ 28 by omega, show k ≠ 29 by omega]
      · simp [zs_up, show i ≠ 0 by omega]
      · simp [zs_up, show i ≠ 0 by omega]
    · have l5 : ¬ m 0 28 = -1 := by rw [l2]; exact re_nm l3
      simp only [if_neg l1, if_neg l5]
      have q : ∀ (P : Prop) [Decidable P], (if P then some c else some c) = some c := by intro P _; split <;> rfl
      rw [q]
      exact ⟨_, _, rfl, rfl, hD, fun _ _ => rfl, fun _ _ => rfl, fun _ _ _ => rfl, fun _ _ _ => rfl⟩
  · have e1 : ¬ nI 61443 = 61440 := by decide
    have e2 : ¬ nI 61443 = 61441 := by decide
    have e3 : ¬ nI 61443 = 61442 := by decide
    have e4 : nI 61443 = 61443 := rfl
    have g1 : ¬ nI 61443 - 61440 = 0 := by decide
    have g2 : ¬ nI 61443 - 61440 = 1 := by decide
    have g3 : ¬ nI 61443 - 61440 = 2 := by decide
    have g4 : nI 61443 - 61440 = 3 := by decide
    simp only [if_neg e1, if_neg e2, if_neg e3, if_pos e4, if_neg g1, if_neg g2, if_neg g3, if_pos g4, d5.1]
    have t0 : ¬ ¬ ((0 : Int32) = 0 ∨ (0 : Int32) = 1) := by decide
    have t1 : ¬ ¬ ((1 : Int32) = 0 ∨ (1 : Int32) = 1) := by decide
    have u0 : ¬ (1 : Int32) = 0 := by decide
    rcases d5.2 with q4 | q4 <;> by_cases b3 : nI b &&& 2 = 0 <;> simp only [q4, b3, if_neg t0, if_neg t1, if_neg u0, if_true, if_false]
    all_goals
      refine ⟨_, _, rfl, rfl, ⟨d1, d2, d3, d4, ⟨rfl, ?_⟩, d6, d7, d8, d9, d10⟩, fun k hk => ?_, fun k hk => ?_, fun i j hi => ?_, fun i j hi => ?_⟩
      · first | exact Or.inl rfl | exact Or.inr rfl
      · simp [zs_up, show k ≠ 6 by omega]
      · simp [zs_up, show k ≠ 27 by omega]
      · simp [zs_up, show i ≠ 0 by omega]
      · simp [zs_up, show i ≠ 0 by omega]
theorem re_wr0 {m : ZS} {n s w : Nat} {l : Int32} (h : ¬ l = 1) : f_M_write_32 m (nI n) (nI s) (lN w) l = some m := by
  show f_M_write_35 (19 + 1) m (nI n) (nI s) (lN w) l 0 = some m
  rw [f_M_write_35]
  simp only [f_M_bytes, Option.bind_some]
  rw [if_neg h]
  split <;> rfl
theorem re_write {N : Nat} {c m : ZS} {n s x w : Nat} (hn : n < 2 ^ 32) (hs : s < 3) (hx : x < 2 ^ 32) (hw : w < 2 ^ 62) (hxw : x % re_W s = w % re_W s) (h1m : ∀ j, m 1 j = c 1 j &&& 255) (hD : re_D N c m) (h0 : m 0 15 = 0) : ∃ (c' m' : ZS), f_B_write c (nI n) (nI s) (nI x) = some c' ∧ f_M_write m (nI n) (nI s) (lN w) = some m' ∧ re_Z N n s 0 c m c' m' := by
  have hp : 2 ^ s ≤ 4 := by rcases re_s3 hs with rfl | rfl | rfl <;> decide
  have h2p := Nat.one_le_two_pow (n := s)
  simp only [f_B_write, f_M_write, f_M_bytes, Option.bind_some, re_shs s hs, zs_nm]
  rw [re_fails hn hs (Or.inl rfl), re_allowed hn hs (Or.inl rfl) h0]
  rcases re_cases n s with ⟨e, q⟩ | ⟨e, q⟩ | ⟨e, q0, q⟩ | ⟨e, q0, q⟩
  · rw [e]
    have hn1 : n < 1024 := by omega
    have hlt : nI n < 1024 := by show nI n < nI 1024; rw [nI_ltI (by omega) (by decide)]; exact hn1
    simp only [if_neg (show ¬ (1 : Nat) = 0 by decide), Option.bind_some, if_pos (show (0 : Int32) = 0 from rfl), if_pos hlt, if_neg (show ¬ nI 1 = 2 by decide)]
    obtain ⟨c', f1, f2, f3, f4⟩ := re_wrB (n := n) (2 ^ s) 20 c (nI x) x (by omega) q.2 hp (by rw [pk_tn hx])
    obtain ⟨m', g1, g2, g3, g4⟩ := re_wrM (n := n) (re_shs s hs) hw q.2 hp (2 ^ s) 0 20 m (by omega) (by omega)
    refine ⟨c', m', f1, g1, ?_, fun j => ?_, fun k _ => f4 0 k (by decide), fun k _ _ => g4 0 k (by decide), fun i j hi => f4 i j (by omega), fun i j hi => g4 i j (by omega), Or.inl ⟨by rw [e]; decide, f4 0 10 (by decide), g4 0 15 (by decide)⟩⟩
    · exact hD.keep (fun k _ => f4 0 k (by decide)) (fun k _ => g4 0 k (by decide)) (fun j => f4 4 j (by decide)) (fun j => g4 4 j (by decide))
    · by_cases h : n ≤ j ∧ j < n + 2 ^ s
      · obtain ⟨i, rfl⟩ : ∃ i, j = n + i := ⟨j - n, by omega⟩
        rw [g2 i (by omega) (by omega), f2 i (by omega)]
        exact congrArg nI (re_digit hxw.symm (by omega))
      · rw [g3 j (by omega), f3 j (by omega), h1m j]
  · rw [e]
    obtain ⟨q1, q2, q3⟩ := q
    subst q1
    have hlt : ¬ nI n < 1024 := by show ¬ nI n < nI 1024; rw [nI_ltI (by omega) (by decide)]; omega
    have eb : (lN w &&& 255).toInt32 = nI (w % 256) := by rw [re_land8 (by omega), lN_i]
    have ex : nI x &&& 255 = nI (w % 256) := by
      have := re_andW (s := 0) (by decide) x
      rw [hxw] at this
      exact this
    obtain ⟨c', m', f1, f2, hD', k1, k2, k3, k4⟩ := re_sdev hD q2 q3 (Nat.mod_lt _ (by decide)) ex
    simp only [if_neg (show ¬ (2 : Nat) = 0 by decide), Option.bind_some, if_pos (show (0 : Int32) = 0 from rfl), if_neg hlt, if_pos (show nI 2 = 2 from rfl), eb, f1, f2, re_wr0 (show ¬ nI 2 = 1 by decide)]
    exact ⟨c', m', rfl, rfl, hD', fun j => by rw [k4 1 j (by decide), k3 1 j (by decide)]; exact h1m j, fun k hk => k1 k (by omega), fun k _ hk => k2 k hk, fun i j hi => k3 i j (by omega), fun i j hi => k4 i j (by omega), Or.inl ⟨by rw [e]; decide, k1 10 (by decide), k2 15 (by decide)⟩⟩
  all_goals
    rw [e]
    simp only [if_true, Option.bind_some, if_neg (show ¬ (1 : Int32) = 0 by decide), if_neg (show ¬ (0 : Int32) = 2 by decide), re_wr0 (show ¬ (0 : Int32) = 1 by decide)]
    refine ⟨_, _, rfl, rfl, hD, h1m, fun k g1 => ?_, fun k g1 g2 => ?_, fun i j g => ?_, fun i j g => ?_, Or.inr ⟨e, rfl, rfl, rfl, rfl, rfl, rfl⟩⟩
    · simp [zs_up, show k ≠ 10 by omega, show k ≠ 11 by omega, show k ≠ 12 by omega]
    · simp [zs_up, show k ≠ 15 by omega, show k ≠ 16 by omega, show k ≠ 17 by omega]
    · simp [zs_up, show i ≠ 0 by omega]
    · simp [zs_up, show i ≠ 0 by omega]
