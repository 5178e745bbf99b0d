/-! Reading: the system's loop, the reference's loop, the devices' bytes. -/
def re_x (c : ZS) (j : Nat) : Nat := (c 1 j &&& 255).toBitVec.toNat % 256
theorem re_xb (c : ZS) (j : Nat) : c 1 j &&& 255 = nI (re_x c j) := by
  obtain ⟨k, hk, e⟩ := pk_andE (c 1 j) (m := 255) 8 (by decide)
  unfold re_x
  rw [e, pk_tn (by omega), Nat.mod_eq_of_lt hk]
theorem re_xl (c : ZS) (j : Nat) : re_x c j < 256 := Nat.mod_lt _ (by decide)
def re_rd (c : ZS) (A : Nat) : Nat → Nat
  | 0 => 0
  | i + 1 => re_rd c A i * 256 + re_x c (A + i)
theorem re_rdl (c : ZS) (A : Nat) : ∀ i, re_rd c A i < 256 ^ i := by
  intro i
  induction i with
  | zero => exact Nat.one_pos
  | succ i ih =>
    have := re_xl c (A + i)
    rw [re_rd, Nat.pow_succ]
    omega
theorem re_or8 {a x : Nat} (ha : a < 2 ^ 24) (hx : x < 256) : nI (a * 256) ||| nI x = nI (a * 256 + x) := by
  apply Int32.toBitVec_inj.mp
  rw [Int32.toBitVec_or, re_bv, re_bv, re_bv]
  apply BitVec.eq_of_toNat_eq
  rw [BitVec.toNat_or]
  simp only [BitVec.toNat_ofNat]
  rw [Nat.mod_eq_of_lt (show a * 256 < 2 ^ 32 by omega), Nat.mod_eq_of_lt (show x < 2 ^ 32 by omega), Nat.mod_eq_of_lt (show a * 256 + x < 2 ^ 32 by omega)]
  have h := Nat.shiftLeft_add_eq_or_of_lt (i := 8) (show x < 2 ^ 8 by omega) a
  rw [Nat.shiftLeft_eq] at h
  exact h.symm
theorem re_sh8 {a : Nat} (ha : a < 2 ^ 24) : zo_shl (nI a) 8 = nI (a * 256) := pk_shlN (8 &&& 31) 8 (by decide) (by omega)
theorem re_rdB {c : ZS} {A s cnt : Nat} (hs : zo_shl 1 (nI s) = nI cnt) (hA : A + cnt ≤ 1024) (hc : cnt ≤ 4) : ∀ k i fuel, i + k = cnt → k < fuel → f_B_read_33 fuel c (nI A) (nI s) (nI (re_rd c A i)) (nI i) = some (nI (re_rd c A cnt), c) := by
  intro k
  induction k with
  | zero =>
    intro i fuel h1 h2
    obtain ⟨f, rfl⟩ : ∃ f, fuel = f + 1 := ⟨fuel - 1, by omega⟩
    have : i = cnt := by omega
    subst this
    rw [f_B_read_33, hs, if_pos (nI_le (Nat.le_refl _) (by omega))]
  | succ k ih =>
    intro i fuel h1 h2
    obtain ⟨f, rfl⟩ : ∃ f, fuel = f + 1 := ⟨fuel - 1, by omega⟩
    have hr : re_rd c A i < 2 ^ 24 := by
      have := re_rdl c A i
      have h3 : 256 ^ i ≤ 256 ^ 3 := Nat.pow_le_pow_right (by decide) (by omega)
      have h4 : (256 : Nat) ^ 3 = 2 ^ 24 := by decide
      omega
    rw [f_B_read_33, hs, if_neg (nI_ge (show i < cnt by omega) (by omega))]
    simp only [zs_nm]
    rw [nI_add, if_neg (nI_in (show A + i < 1024 by omega) (by decide)), nI_clamp (by omega), re_xb, re_sh8 hr, re_or8 hr (re_xl c _), nI_1]
    exact ih (i + 1) f (by omega) (by omega)
theorem re_rdM {c m : ZS} (h1m : ∀ j, m 1 j = c 1 j &&& 255) {A s cnt : Nat} (hs : zo_shl 1 (nI s) = nI cnt) (hA : A + cnt ≤ 1024) (hc : cnt ≤ 4) : ∀ k i fuel, i + k = cnt → k < fuel → f_M_read_42 fuel m (nI A) (nI s) (lN (re_rd c A i)) (nI i) = some (lN (re_rd c A cnt), m) := by
  intro k
  induction k with
  | zero =>
    intro i fuel h1 h2
    obtain ⟨f, rfl⟩ : ∃ f, fuel = f + 1 := ⟨fuel - 1, by omega⟩
    have : i = cnt := by omega
    subst this
    rw [f_M_read_42]
    simp only [f_M_bytes, Option.bind_some, hs]
    rw [if_pos (nI_le (Nat.le_refl _) (by omega))]
  | succ k ih =>
    intro i fuel h1 h2
    obtain ⟨f, rfl⟩ : ∃ f, fuel = f + 1 := ⟨fuel - 1, by omega⟩
    rw [f_M_read_42]
    simp only [f_M_bytes, Option.bind_some, hs, zs_nm]
    have hx := re_xl c (A + i)
    rw [if_neg (nI_ge (show i < cnt by omega) (by omega)), nI_add, if_neg (nI_in (show A + i < 1024 by omega) (by decide)), nI_clamp (by omega), h1m, re_xb, nI_l (by omega), show (lN (re_rd c A i) * 256 : Int64) = lN (re_rd c A i * 256) from lN_mul _ 256, lN_add, nI_1]
    exact ih (i + 1) f (by omega) (by omega)
/-- an access that went its way: what is left alone, and the fault if there is one; d: 1 where it reads -/
def re_A (N : Nat) (n s : Nat) (d : Int32) (c m c' m' : ZS) : Prop := re_D N c' m' ∧ (∀ k, k ≠ 4 → (k < 10 ∨ 12 < k) → c' 0 k = c 0 k) ∧ (∀ k, k ≠ 26 → (k < 15 ∨ 17 < k) → m' 0 k = m 0 k) ∧ (∀ i j, 1 ≤ i → c' i j = c i j) ∧ (∀ i j, 1 ≤ i → m' i j = m i j) ∧
  ((¬ re_ok n s = 0 ∧ c' 0 10 = c 0 10 ∧ m' 0 15 = m 0 15) ∨ (re_ok n s = 0 ∧ c' 0 10 = re_er n s ∧ c' 0 11 = nI n ∧ c' 0 12 = d ∧ m' 0 15 = re_er n s ∧ m' 0 16 = nI n ∧ m' 0 17 = d))
theorem re_dev {N : Nat} {c m : ZS} {n : Nat} (hD : re_D N c m) (h1 : 61440 ≤ n) (h2 : n ≤ 61443) : ∃ (v : Nat) (c' m' : ZS), v < 256 ∧ f_D_readByte c (nI n) = some (nI v, c') ∧ f_M_device m (nI n - 61440) = some (nI v, m') ∧ re_D N c' m' ∧ ((c' = c ∧ m' = m) ∨ (c' = zs_up c 0 4 0 ∧ m' = zs_up m 0 26 (-1))) := by
  obtain ⟨d1, d2, d3, d4, d5, d6, d7, d8, d9, d10⟩ := id hD
  rcases (show n = 61440 ∨ n = 61441 ∨ n = 61442 ∨ n = 61443 by omega) with rfl | rfl | rfl | rfl
  · obtain ⟨v, hv, e⟩ := pk_andE (c 0 1) (m := 255) 8 (by decide)
    refine ⟨v, c, m, hv, ?_, ?_, hD, Or.inl ⟨rfl, rfl⟩⟩
    · simp only [f_D_readByte, if_pos (show nI 61440 = 61440 from rfl), e]
    · simp only [f_M_device, if_pos (show nI 61440 - 61440 = 0 by decide), d2, e]
  · have e1 : ¬ nI 61441 = 61440 := by decide
    have e2 : nI 61441 = 61441 := rfl
    have g1 : ¬ nI 61441 - 61440 = 0 := by decide
    have g2 : nI 61441 - 61440 = 1 := by decide
    simp only [f_D_readByte, f_D_readByte_53, f_D_readByte_65, if_neg e1, if_pos e2, f_M_device, f_M_device_30, f_M_device_42, if_neg g1, if_pos g2]
    rw [d3.1, d4.1]
    rcases d3.2 with a | a <;> rcases d4.2 with b | b <;> rw [a, b]
    · exact ⟨0, c, m, by decide, rfl, rfl, hD, Or.inl ⟨rfl, rfl⟩⟩
    · exact ⟨2, c, m, by decide, rfl, rfl, hD, Or.inl ⟨rfl, rfl⟩⟩
    · exact ⟨1, c, m, by decide, rfl, rfl, hD, Or.inl ⟨rfl, rfl⟩⟩
    · exact ⟨3, c, m, by decide, rfl, rfl, hD, Or.inl ⟨rfl, rfl⟩⟩
  · have e1 : ¬ nI 61442 = 61440 := by decide
    have e2 : ¬ nI 61442 = 61441 := by decide
    have e3 : nI 61442 = 61442 := rfl
    have g1 : ¬ nI 61442 - 61440 = 0 := by decide
    have g2 : ¬ nI 61442 - 61440 = 1 := by decide
    have g3 : nI 61442 - 61440 = 2 := by decide
    simp only [f_D_readByte, f_D_readByte_82, if_neg e1, if_neg e2, if_pos e3, f_M_device, f_M_device_65, if_neg g1, if_neg g2, if_pos g3, zs_nm]
    have hD2 : re_D N (zs_up c 0 4 0) (zs_up m 0 26 (-1)) := ⟨d1, d2, d3, d4, d5, Or.inl ⟨rfl, rfl⟩, d7, d8, d9, d10⟩
    rcases d6 with ⟨k1, k2⟩ | ⟨k1, k2, k3⟩
    · rw [if_pos k1, if_pos k2]
      exact ⟨0, _, _, by decide, rfl, rfl, hD2, Or.inr ⟨rfl, rfl⟩⟩
    · obtain ⟨b, hb, e⟩ := id k3
      rw [if_neg (by rw [k1]; decide), if_neg (by rw [k2]; exact re_nm k3), k2, e]
      exact ⟨b, _, _, hb, rfl, rfl, hD2, Or.inr ⟨rfl, rfl⟩⟩
  · have e1 : ¬ nI 61443 = 61440 := by decide
    have e2 : ¬ nI 61443 = 61441 := by decide
    have e3 : ¬ nI 61443 = 61442 := by decide
    have e4 : nI 61443 = 61443 := rfl
    have g1 : ¬ nI 61443 - 61440 = 0 := by decide
    have g2 : ¬ nI 61443 - 61440 = 1 := by decide
    have g3 : ¬ nI 61443 - 61440 = 2 := by decide
    simp only [f_D_readByte, f_D_readByte_102, f_D_readByte_114, f_D_readByte_127, if_neg e1, if_neg e2, if_neg e3, if_pos e4, f_M_device, f_M_device_86, f_M_device_98, f_M_device_112, if_neg g1, if_neg g2, if_neg g3]
    rw [d5.1]
    rcases d6 with ⟨k1, k2⟩ | ⟨k1, k2, k3⟩
    · rcases d7 with ⟨l1, l2⟩ | ⟨l1, l2, l3, l4⟩
      · simp only [if_pos k1, if_pos k2, if_pos l1, if_pos l2]
        rcases d5.2 with a | a <;> rw [a]
        · exact ⟨4, c, m, by decide, rfl, rfl, hD, Or.inl ⟨rfl, rfl⟩⟩
        · exact ⟨6, c, m, by decide, rfl, rfl, hD, Or.inl ⟨rfl, rfl⟩⟩
      · have l5 : ¬ m 0 28 = -1 := by rw [l2]; exact re_nm l3
        simp only [if_pos k1, if_pos k2, if_neg l1, if_neg l5]
        rcases d5.2 with a | a <;> rw [a]
        · exact ⟨0, c, m, by decide, rfl, rfl, hD, Or.inl ⟨rfl, rfl⟩⟩
        · exact ⟨2, c, m, by decide, rfl, rfl, hD, Or.inl ⟨rfl, rfl⟩⟩
    · have k4 : ¬ c 0 4 = 0 := by rw [k1]; decide
      have k5 : ¬ m 0 26 = -1 := by rw [k2]; exact re_nm k3
      rcases d7 with ⟨l1, l2⟩ | ⟨l1, l2, l3, l4⟩
      · simp only [if_neg k4, if_neg k5, if_pos l1, if_pos l2]
        rcases d5.2 with a | a <;> rw [a]
        · exact ⟨5, c, m, by decide, rfl, rfl, hD, Or.inl ⟨rfl, rfl⟩⟩
        · exact ⟨7, c, m, by decide, rfl, rfl, hD, Or.inl ⟨rfl, rfl⟩⟩
      · have l5 : ¬ m 0 28 = -1 := by rw [l2]; exact re_nm l3
        simp only [if_neg k4, if_neg k5, if_neg l1, if_neg l5]
        rcases d5.2 with a | a <;> rw [a]
        · exact ⟨1, c, m, by decide, rfl, rfl, hD, Or.inl ⟨rfl, rfl⟩⟩
        · exact ⟨3, c, m, by decide, rfl, rfl, hD, Or.inl ⟨rfl, rfl⟩⟩
theorem re_shs : ∀ s, s < 3 → zo_shl 1 (nI s) = nI (2 ^ s) := by decide
theorem re_read {N : Nat} {c m : ZS} {n s : Nat} (hn : n < 2 ^ 32) (hs : s < 3) (h1m : ∀ j, m 1 j = c 1 j &&& 255) (hD : re_D N c m) (h0 : m 0 15 = 0) : ∃ (v : Nat) (c' m' : ZS), v < 256 ^ 2 ^ s ∧ f_B_read c (nI n) (nI s) = some (nI v, c') ∧ f_M_read m (nI n) (nI s) = some (lN v, m') ∧ re_A N n s 1 c m c' m' ∧ (re_ok n s = 1 → v = re_rd c n (2 ^ s)) ∧ (re_ok n s = 0 → v = 0) := by
  have hp : 2 ^ s ≤ 4 := by rcases (show s = 0 ∨ s = 1 ∨ s = 2 by omega) with rfl | rfl | rfl <;> decide
  have hv0 : 0 < 256 ^ 2 ^ s := Nat.pow_pos (by decide)
  simp only [f_B_read, f_M_read, f_M_bytes, Option.bind_some, re_shs s hs]
  rw [re_fails hn hs (Or.inr rfl), re_allowed hn hs (Or.inr rfl) h0]
  rcases re_cases n s with ⟨e, q⟩ | ⟨e, q⟩ | ⟨e, q0, q⟩ | ⟨e, q0, q⟩
  · rw [e]
    have h2p := Nat.one_le_two_pow (n := s)
    have hn1 : n < 1024 := by omega
    have hlt : nI n < 1024 := by show nI n < nI 1024; rw [nI_ltI (by omega) (by decide)]; exact hn1
    simp only [if_neg (show ¬ (1 : Nat) = 0 by decide), Option.bind_some, if_pos (show (0 : Int32) = 0 from rfl), if_pos hlt, if_neg (show ¬ nI 1 = 0 by decide), if_neg (show ¬ nI 1 = 2 by decide)]
    have r1 := re_rdB (c := c) (re_shs s hs) q.2 hp (2 ^ s) 0 20 (by omega) (by omega)
    have r2 := re_rdM (c := c) h1m (re_shs s hs) q.2 hp (2 ^ s) 0 20 (by omega) (by omega)
    exact ⟨re_rd c n (2 ^ s), c, m, re_rdl c n _, r1, r2, ⟨hD, fun _ _ _ => rfl, fun _ _ _ => rfl, fun _ _ _ => rfl, fun _ _ _ => rfl, Or.inl ⟨by rw [e]; decide, rfl, rfl⟩⟩, fun _ => rfl, fun h => absurd h (by decide)⟩
  · rw [e]
    obtain ⟨q1, q2, q3⟩ := q
    subst q1
    have hlt : ¬ nI n < 1024 := by show ¬ nI n < nI 1024; rw [nI_ltI (by omega) (by decide)]; omega
    obtain ⟨v, c', m', hv, f1, f2, hD', hcm⟩ := re_dev hD q2 q3
    simp only [if_neg (show ¬ (2 : Nat) = 0 by decide), Option.bind_some, if_pos (show (0 : Int32) = 0 from rfl), if_neg hlt, if_neg (show ¬ nI 2 = 0 by decide), if_pos (show nI 2 = 2 from rfl), f1, f2, nI_l (show v < 2 ^ 31 by omega)]
    refine ⟨v, c', m', by simpa using hv, rfl, rfl, ⟨hD', fun k g1 g2 => ?_, fun k g1 g2 => ?_, fun i j g => ?_, fun i j g => ?_, Or.inl ⟨by rw [e]; decide, ?_, ?_⟩⟩, fun h => absurd h (by decide), fun h => absurd h (by decide)⟩
    · rcases hcm with ⟨rfl, rfl⟩ | ⟨rfl, rfl⟩
      · rfl
      · simp [zs_up, g1]
    · rcases hcm with ⟨rfl, rfl⟩ | ⟨rfl, rfl⟩
      · rfl
      · simp [zs_up, g1]
    · rcases hcm with ⟨rfl, rfl⟩ | ⟨rfl, rfl⟩
      · rfl
      · simp [zs_up, show i ≠ 0 by omega]
    · rcases hcm with ⟨rfl, rfl⟩ | ⟨rfl, rfl⟩
      · rfl
      · simp [zs_up, show i ≠ 0 by omega]
    · rcases hcm with ⟨rfl, rfl⟩ | ⟨rfl, rfl⟩ <;> rfl
    · rcases hcm with ⟨rfl, rfl⟩ | ⟨rfl, rfl⟩ <;> rfl
  all_goals
    rw [e]
    simp only [if_pos (show (0 : Nat) = 0 from rfl), Option.bind_some, if_neg (show ¬ (1 : Int32) = 0 by decide), if_pos (show (0 : Int32) = 0 from rfl)]
    refine ⟨0, _, _, hv0, rfl, rfl, ⟨hD, fun k g1 g2 => ?_, fun k g1 g2 => ?_, fun i j g => ?_, fun i j g => ?_, Or.inr ⟨e, rfl, rfl, rfl, rfl, rfl, rfl⟩⟩, fun h => absurd h (by decide), fun _ => rfl⟩
    · simp [zs_up, show k ≠ 10 by omega, show k ≠ 11 by omega, show k ≠ 12 by omega]
    · simp [zs_up, show k ≠ 15 by omega, show k ≠ 16 by omega, show k ≠ 17 by omega]
    · simp [zs_up, show i ≠ 0 by omega]
    · simp [zs_up, show i ≠ 0 by omega]
theorem re_isWord {m : ZS} {n : Nat} (hn : n < 2 ^ 32) : f_M_isWord m (nI n) = some (if n ≤ 1022 ∧ n % 2 = 0 then 1 else 0, m) := by
  have z0 : nI n < 0 ↔ 2 ^ 31 ≤ n := by have := re_lt hn (show 0 < 2 ^ 31 by decide); rw [show (nI 0) = 0 from rfl] at this; rw [this]; omega
  have a1 : (1022 : Int32) < nI n ↔ (1022 < n ∧ n < 2 ^ 31) := re_gt hn (by decide)
  simp only [f_M_isWord, z0, a1]
  by_cases h1 : 2 ^ 31 ≤ n
  · rw [if_pos h1, if_neg (by omega)]
  rw [if_neg h1]
  by_cases h2 : 1022 < n ∧ n < 2 ^ 31
  · rw [if_pos h2, if_neg (by omega)]
  rw [if_neg h2]
  have e : zo_irem (nI n) 2 = nI (n % 2) := pk_rem (d := 2) (by omega) (by decide) (by decide)
  rw [e]
  rcases (show n % 2 = 0 ∨ n % 2 = 1 by omega) with h3 | h3
  · rw [h3, if_pos (show nI 0 = 0 from rfl), if_pos ⟨by omega, rfl⟩]
  · rw [h3, if_neg (show ¬ nI 1 = 0 by decide), if_neg (by omega)]
theorem re_noWord {c : ZS} {n : Nat} (hn : n < 2 ^ 32) : f_F_isNoWordOfMemory c (nI n) = some (if n ≤ 1022 ∧ n % 2 = 0 then 0 else 1, c) := by
  have z0 : nI n < 0 ↔ 2 ^ 31 ≤ n := by have := re_lt hn (show 0 < 2 ^ 31 by decide); rw [show (nI 0) = 0 from rfl] at this; rw [this]; omega
  have a1 : nI n ≤ 1022 ↔ ¬ (1022 < n ∧ n < 2 ^ 31) := by
    rw [← re_gt hn (show 1022 < 2 ^ 31 by decide)]
    show nI n ≤ nI 1022 ↔ ¬ nI 1022 < nI n
    rw [Int32.le_iff_toInt_le, Int32.lt_iff_toInt_lt]
    omega
  simp only [f_F_isNoWordOfMemory, f_F_isNoWordOfMemory_17, z0, a1, re_odd hn]
  repeat' split
  all_goals first | rfl | omega
theorem re_peek {N : Nat} {c m : ZS} (h : re_B N c m) (a : Int32) : re_Wi N (f_F_peek c a) (f_M_peek m a) := by
  obtain ⟨n, hn, rfl⟩ := re_of32 a
  have good : re_B N c (zs_up m 0 0 0) := re_th h
  have bad : re_B N c (zs_up m 0 0 1) := re_th h
  obtain ⟨⟨p1, p2, p3, p4, p5⟩, hF, hD, hX, h0⟩ := id h
  unfold re_Wi
  simp only [f_F_peek, f_M_peek, f_M_peek_13, zs_nm, re_noWord hn, re_isWord hn, Option.bind_some]
  have t1 : ¬ (zs_up m 0 0 1) 0 0 ≤ 0 := by show ¬ (1 : Int32) ≤ 0; decide
  have t0 : (zs_up m 0 0 0) 0 0 ≤ 0 := by show (0 : Int32) ≤ 0; decide
  by_cases hw : n ≤ 1022 ∧ n % 2 = 0
  · have hok : re_ok n 1 = 1 := re_ok1 (by omega) (by omega)
    obtain ⟨v, c', m', hv, f1, f2, hA, hv1, -⟩ := re_read hn (show 1 < 3 by decide) p1 hD h0
    have r1 := re_rdB (c := c) (re_shs 1 (by decide)) (show n + 2 ≤ 1024 by omega) (by decide) 2 0 20 (by omega) (by omega)
    have hlt : nI n < 1024 := by show nI n < nI 1024; rw [nI_ltI (by omega) (by decide)]; omega
    have fr : f_B_read c (nI n) 1 = some (nI (re_rd c n 2), c) := by
      show f_B_read c (nI n) (nI 1) = _
      simp only [f_B_read]
      rw [re_fails hn (by decide) (Or.inr rfl), hok]
      simp only [if_neg (show ¬ (1 : Nat) = 0 by decide), Option.bind_some, if_pos (show (0 : Int32) = 0 from rfl), if_pos hlt]
      exact r1
    have x1 : (zs_up m 0 0 0) 1 n = nI (re_x c n) := by show m 1 n = _; rw [p1, re_xb]
    have x2 : (zs_up m 0 0 0) 1 (n + 1) = nI (re_x c (n + 1)) := by show m 1 (n + 1) = _; rw [p1, re_xb]
    simp only [if_pos hw, if_pos (show (0 : Int32) = 0 from rfl), if_neg (show ¬ (1 : Int32) = 0 by decide), if_pos t0, fr, Option.bind_some]
    rw [if_neg (nI_in (show n < 1024 by omega) (by decide)), nI_1, if_neg (nI_in (show n + 1 < 1024 by omega) (by decide)), nI_clamp (by omega), nI_clamp (by omega), x1, x2]
    refine ⟨_, _, rfl, rfl, Or.inr ⟨rfl, ?_⟩, good⟩
    show some (nI (re_rd c n 2)) = some (256 * nI (re_x c n) + nI (re_x c (n + 1)))
    rw [show (256 : Int32) * nI (re_x c n) = nI (256 * re_x c n) from pk_mul 256 _, nI_add]
    congr 2
    show (0 * 256 + re_x c (n + 0)) * 256 + re_x c (n + 1) = _
    rw [Nat.add_zero]; omega
  · simp only [if_neg hw, if_neg (show ¬ (1 : Int32) = 0 by decide), if_pos (show (0 : Int32) = 0 from rfl), if_neg t1]
    exact ⟨_, _, rfl, rfl, Or.inl ⟨rfl, rfl⟩, bad⟩
