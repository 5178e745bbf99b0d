/-! Accesses: which succeed, and reading. An address is nI n with n < 2^32, a size 0, 1 or 2. -/
def re_ok (n s : Nat) : Nat := if s ≠ 0 ∧ n % 2 = 1 then 0 else if n + 2 ^ s ≤ 1024 then 1 else if s = 0 ∧ 61440 ≤ n ∧ n ≤ 61443 then 2 else 0
def re_er (n s : Nat) : Int32 := if s ≠ 0 ∧ n % 2 = 1 then 3 else 2
theorem re_of32 (x : Int32) : ∃ n, n < 2 ^ 32 ∧ x = nI n := ⟨x.toBitVec.toNat, x.toBitVec.isLt, by
  apply Int32.toBitVec_inj.mp
  show x.toBitVec = (Int32.ofNat _).toBitVec
  rw [Int32.toBitVec_ofNat']
  simp⟩
theorem re_bv (n : Nat) : (nI n).toBitVec = BitVec.ofNat 32 n := Int32.toBitVec_ofNat' ..
theorem re_neg {n : Nat} (h : 2 ^ 31 ≤ n) (h2 : n < 2 ^ 32) : (nI n).toInt = (n : Int) - 2 ^ 32 := by
  show (Int32.ofNat n).toInt = _
  rw [show (Int32.ofNat n).toInt = (n : Int).bmod (2 ^ 32) by first | exact Int32.toInt_ofNat .. | exact Int32.toInt_ofNat' .. | (show (Int32.ofNat n).toBitVec.toInt = _; rw [Int32.toBitVec_ofNat', BitVec.toInt_ofNat'])]
  rw [Int.bmod_def]
  split <;> omega
theorem re_u {n : Nat} (h : n < 2 ^ 32) : (nI n).toInt64 &&& 4294967295 = lN n := by
  apply Int64.toBitVec_inj.mp
  rw [Int64.toBitVec_and, Int32.toBitVec_toInt64, re_bv]
  show _ = (Int64.ofNat n).toBitVec
  rw [Int64.toBitVec_ofNat']
  apply BitVec.eq_of_toNat_eq
  have e : (4294967295 : Int64).toBitVec = BitVec.ofNat 64 (2 ^ 32 - 1) := by decide
  rw [e, BitVec.toNat_and]
  simp only [BitVec.toNat_ofNat]
  rw [Nat.mod_eq_of_lt (show 2 ^ 32 - 1 < 2 ^ 64 by decide), Nat.and_two_pow_sub_one_eq_mod, BitVec.toNat_signExtend]
  simp only [BitVec.toNat_setWidth, BitVec.toNat_ofNat]
  split <;> omega
theorem re_odd {n : Nat} (h : n < 2 ^ 32) : (nI n &&& 1) = 0 ↔ ¬ n % 2 = 1 := by
  rw [pk_andN h 1 (by decide)]
  have h1 : n % 2 ^ 1 = n % 2 := rfl
  rw [h1]
  constructor
  · intro e g
    rw [g] at e
    exact absurd e (by decide)
  · intro g
    rw [show n % 2 = 0 by omega]
    rfl
theorem re_lodd {n : Nat} (h : n < 2 ^ 32) : lg_cmp (zo_lrem (lN n) 2) 1 = 0 ↔ n % 2 = 1 := by
  have e : zo_lrem (lN n) 2 = lN (n % 2) := pk_lRem (b := 2) (by omega) (by decide) (by decide)
  rw [e]
  rcases (show n % 2 = 0 ∨ n % 2 = 1 by omega) with g | g
  · rw [g]; decide
  · rw [g]; decide
theorem re_cmpP {a b : Nat} (ha : a < 2 ^ 63) (hb : b < 2 ^ 63) : 0 < lg_cmp (lN a) (lN b) ↔ b < a := by
  unfold lg_cmp
  by_cases h : lN a > lN b
  · rw [if_pos h]
    exact ⟨fun _ => (pk_lLT hb ha).mp h, fun _ => by decide⟩
  · rw [if_neg h]
    have h2 : ¬ b < a := fun g => h ((pk_lLT hb ha).mpr g)
    refine ⟨fun g => ?_, fun g => absurd g h2⟩
    split at g <;> exact absurd g (by decide)
theorem re_cmpN {a b : Nat} (ha : a < 2 ^ 63) (hb : b < 2 ^ 63) : lg_cmp (lN a) (lN b) < 0 ↔ a < b := by
  unfold lg_cmp
  by_cases h : lN a > lN b
  · rw [if_pos h]
    have := (pk_lLT hb ha).mp h
    exact ⟨fun g => absurd g (by decide), fun g => by omega⟩
  · rw [if_neg h]
    have h2 : ¬ b < a := fun g => h ((pk_lLT hb ha).mpr g)
    by_cases e : lN a = lN b
    · rw [if_pos e]
      have := (pk_lEQ ha hb).mp e
      exact ⟨fun g => absurd g (by decide), fun g => by omega⟩
    · rw [if_neg e]
      have : ¬ a = b := fun g => e ((pk_lEQ ha hb).mpr g)
      exact ⟨fun _ => by omega, fun _ => by decide⟩
theorem re_lt {n k : Nat} (h : n < 2 ^ 32) (hk : k < 2 ^ 31) : nI n < nI k ↔ (n < k ∨ 2 ^ 31 ≤ n) := by
  by_cases g : n < 2 ^ 31
  · rw [nI_ltI g hk]; omega
  · rw [Int32.lt_iff_toInt_lt, re_neg (by omega) h, nI_toInt hk]; omega
theorem re_gt {n k : Nat} (h : n < 2 ^ 32) (hk : k < 2 ^ 31) : nI k < nI n ↔ (k < n ∧ n < 2 ^ 31) := by
  by_cases g : n < 2 ^ 31
  · rw [nI_ltI hk g]; omega
  · rw [Int32.lt_iff_toInt_lt, re_neg (by omega) h, nI_toInt hk]; omega
theorem re_ok1 {n s : Nat} (a : ¬ (s ≠ 0 ∧ n % 2 = 1)) (b : n + 2 ^ s ≤ 1024) : re_ok n s = 1 := by unfold re_ok; rw [if_neg a, if_pos b]
theorem re_ok2 {n s : Nat} (a : s = 0) (b : 61440 ≤ n) (c : n ≤ 61443) : re_ok n s = 2 := by
  subst a
  unfold re_ok
  rw [if_neg (fun h => h.1 rfl), if_neg (by simp; omega), if_pos ⟨rfl, b, c⟩]
theorem re_ok3 {n s : Nat} (a : s ≠ 0 ∧ n % 2 = 1) : re_ok n s = 0 ∧ re_er n s = 3 := by unfold re_ok re_er; rw [if_pos a, if_pos a]; exact ⟨rfl, rfl⟩
theorem re_ok4 {n s : Nat} (a : ¬ (s ≠ 0 ∧ n % 2 = 1)) (b : ¬ n + 2 ^ s ≤ 1024) (c : ¬ (s = 0 ∧ 61440 ≤ n ∧ n ≤ 61443)) : re_ok n s = 0 ∧ re_er n s = 2 := by unfold re_ok re_er; rw [if_neg a, if_neg a, if_neg b, if_neg c]; exact ⟨rfl, rfl⟩
theorem re_cases (n s : Nat) : (re_ok n s = 1 ∧ ¬ (s ≠ 0 ∧ n % 2 = 1) ∧ n + 2 ^ s ≤ 1024) ∨ (re_ok n s = 2 ∧ s = 0 ∧ 61440 ≤ n ∧ n ≤ 61443) ∨ (re_ok n s = 0 ∧ re_er n s = 3 ∧ s ≠ 0 ∧ n % 2 = 1) ∨ (re_ok n s = 0 ∧ re_er n s = 2 ∧ ¬ (s ≠ 0 ∧ n % 2 = 1) ∧ ¬ n + 2 ^ s ≤ 1024 ∧ ¬ (s = 0 ∧ 61440 ≤ n ∧ n ≤ 61443)) := by
  by_cases a : s ≠ 0 ∧ n % 2 = 1
  · exact Or.inr (Or.inr (Or.inl ⟨(re_ok3 a).1, (re_ok3 a).2, a⟩))
  by_cases b : n + 2 ^ s ≤ 1024
  · exact Or.inl ⟨re_ok1 a b, a, b⟩
  by_cases c : s = 0 ∧ 61440 ≤ n ∧ n ≤ 61443
  · exact Or.inr (Or.inl ⟨re_ok2 c.1 c.2.1 c.2.2, c⟩)
  · exact Or.inr (Or.inr (Or.inr ⟨(re_ok4 a b c).1, (re_ok4 a b c).2, a, b, c⟩))
theorem re_fails {c : ZS} {n s : Nat} {d : Int32} (hn : n < 2 ^ 32) (hs : s < 3) (hd : d = 0 ∨ d = 1) : f_B_fails c (nI n) (nI s) d = if re_ok n s = 0 then some (1, zs_up (zs_up (zs_up c 0 10 (re_er n s)) 0 11 (nI n)) 0 12 d) else some (0, c) := by
  have z0 : nI n < 0 ↔ 2 ^ 31 ≤ n := by have := re_lt hn (show 0 < 2 ^ 31 by decide); rw [show (nI 0) = 0 from rfl] at this; rw [this]; omega
  have a1 : nI n < 61440 ↔ (n < 61440 ∨ 2 ^ 31 ≤ n) := re_lt hn (by decide)
  have a2 : (61443 : Int32) < nI n ↔ (61443 < n ∧ n < 2 ^ 31) := re_gt hn (by decide)
  have od := re_odd hn
  simp only [f_B_fails, f_B_fails_19, f_B_fails_20, f_B_fails_42, f_B_fails_43, f_B_fails_63, f_B_fails_83, zs_nm, if_neg (show ¬ ¬ (d = 0 ∨ d = 1) from fun g => g hd)]
  have hcs := re_cases n s
  generalize re_ok n s = ok at hcs ⊢
  generalize re_er n s = er at hcs ⊢
  rcases (show s = 0 ∨ s = 1 ∨ s = 2 by omega) with rfl | rfl | rfl
  · have e : (1024 - zo_shl 1 (nI 0)) = nI 1023 := by decide
    have a3 : nI 1023 < nI n ↔ (1023 < n ∧ n < 2 ^ 31) := re_gt hn (by decide)
    rw [e]
    simp only [z0, a1, a2, a3, nI_0, if_true, show (0 : Nat) ≠ 0 ↔ False by decide, false_and, if_false, Nat.pow_zero, true_and]
    simp only [Nat.pow_zero, Nat.pow_one, show 2 ^ 2 = 4 by decide, true_and] at hcs
    rcases hcs with ⟨rfl, q⟩ | ⟨rfl, q⟩ | ⟨rfl, rfl, q⟩ | ⟨rfl, rfl, q⟩
    all_goals (repeat' split)
    all_goals first | rfl | omega | (exfalso; omega) | exact absurd ‹(1 : Int32) = 0› (by decide) | exact absurd rfl ‹¬ (0 : Int32) = 0› | exact absurd ‹(2 : Int32) = 0› (by decide) | exact absurd rfl ‹¬ (1 : Int32) = 1› | exact absurd trivial ‹¬ True›
  · have e : (1024 - zo_shl 1 (nI 1)) = nI 1022 := by decide
    have a3 : nI 1022 < nI n ↔ (1022 < n ∧ n < 2 ^ 31) := re_gt hn (by decide)
    have e1 : ¬ nI 1 = 0 := by decide
    rw [e]
    simp only [z0, a3, e1, od, if_false, show (1 : Nat) ≠ 0 ↔ True by decide, true_and, show (1 : Nat) = 0 ↔ False by decide, false_and]
    simp only [Nat.pow_zero, Nat.pow_one, show 2 ^ 2 = 4 by decide, true_and] at hcs
    rcases hcs with ⟨rfl, q⟩ | ⟨rfl, q⟩ | ⟨rfl, rfl, q⟩ | ⟨rfl, rfl, q⟩
    all_goals (repeat' split)
    all_goals first | rfl | omega | (exfalso; omega) | exact absurd ‹(1 : Int32) = 0› (by decide) | exact absurd rfl ‹¬ (0 : Int32) = 0› | exact absurd ‹(2 : Int32) = 0› (by decide) | exact absurd rfl ‹¬ (1 : Int32) = 1› | exact absurd trivial ‹¬ True›
  · have e : (1024 - zo_shl 1 (nI 2)) = nI 1020 := by decide
    have a3 : nI 1020 < nI n ↔ (1020 < n ∧ n < 2 ^ 31) := re_gt hn (by decide)
    have e1 : ¬ nI 2 = 0 := by decide
    rw [e]
    simp only [z0, a3, e1, od, if_false, show (2 : Nat) ≠ 0 ↔ True by decide, true_and, show (2 : Nat) = 0 ↔ False by decide, false_and]
    simp only [Nat.pow_zero, Nat.pow_one, show 2 ^ 2 = 4 by decide, true_and] at hcs
    rcases hcs with ⟨rfl, q⟩ | ⟨rfl, q⟩ | ⟨rfl, rfl, q⟩ | ⟨rfl, rfl, q⟩
    all_goals (repeat' split)
    all_goals first | rfl | omega | (exfalso; omega) | exact absurd ‹(1 : Int32) = 0› (by decide) | exact absurd rfl ‹¬ (0 : Int32) = 0› | exact absurd ‹(2 : Int32) = 0› (by decide) | exact absurd rfl ‹¬ (1 : Int32) = 1› | exact absurd trivial ‹¬ True›
theorem re_allowed {m : ZS} {n s : Nat} {d : Int32} (hn : n < 2 ^ 32) (hs : s < 3) (hd : d = 0 ∨ d = 1) (h0 : m 0 15 = 0) : f_M_allowed m (nI n) (nI (2 ^ s)) d = if re_ok n s = 0 then some (0, zs_up (zs_up (zs_up m 0 15 (re_er n s)) 0 16 (nI n)) 0 17 d) else some (nI (re_ok n s), m) := by
  have od := re_lodd hn
  have c1 : lg_cmp (lN n) 61440 < 0 ↔ n < 61440 := re_cmpN (by omega) (by decide)
  have c2 : 0 < lg_cmp (lN n) 61443 ↔ 61443 < n := re_cmpP (by omega) (by decide)
  have dd : (if d = 0 then (some ((0 : Int32), zs_up (zs_up (zs_up m 0 15 2) 0 16 (nI n)) 0 17 0)) else some (0, zs_up (zs_up (zs_up m 0 15 2) 0 16 (nI n)) 0 17 1)) = some (0, zs_up (zs_up (zs_up m 0 15 2) 0 16 (nI n)) 0 17 d) := by rcases hd with rfl | rfl <;> rfl
  have dd3 : (if d = 0 then (some ((0 : Int32), zs_up (zs_up (zs_up m 0 15 3) 0 16 (nI n)) 0 17 0)) else some (0, zs_up (zs_up (zs_up m 0 15 3) 0 16 (nI n)) 0 17 1)) = some (0, zs_up (zs_up (zs_up m 0 15 3) 0 16 (nI n)) 0 17 d) := by rcases hd with rfl | rfl <;> rfl
  simp only [f_M_allowed, f_M_allowed_37, f_M_allowed_80, f_M_allowed_81, f_M_allowed_109, f_M_allowed_110, f_M_allowed_128, f_M_allowed_131, zs_nm, if_pos h0, re_u hn]
  have hcs := re_cases n s
  generalize re_ok n s = ok at hcs ⊢
  generalize re_er n s = er at hcs ⊢
  rcases (show s = 0 ∨ s = 1 ∨ s = 2 by omega) with rfl | rfl | rfl
  · have e : lN n + (nI (2 ^ 0)).toInt64 = lN (n + 1) := lN_add n 1
    have c3 : 0 < lg_cmp (lN (n + 1)) 1024 ↔ 1024 < n + 1 := re_cmpP (by omega) (by decide)
    have e1 : nI (2 ^ 0) ≤ 1 := by decide
    have e2 : nI (2 ^ 0) = 1 := rfl
    rw [e]
    simp only [if_pos e1, if_pos e2, c1, c2, c3, show (0 : Nat) ≠ 0 ↔ False by decide, false_and, if_false, Nat.pow_zero, true_and, if_true, dd]
    simp only [Nat.pow_zero, Nat.pow_one, show 2 ^ 2 = 4 by decide, true_and] at hcs
    rcases hcs with ⟨rfl, q⟩ | ⟨rfl, q⟩ | ⟨rfl, rfl, q⟩ | ⟨rfl, rfl, q⟩
    all_goals (repeat' split)
    all_goals first | rfl | omega | (exfalso; omega) | exact absurd ‹(1 : Int32) = 0› (by decide) | exact absurd rfl ‹¬ (0 : Int32) = 0› | exact absurd ‹(2 : Int32) = 0› (by decide) | exact absurd rfl ‹¬ (1 : Int32) = 1› | exact absurd trivial ‹¬ True›
  · have e : lN n + (nI (2 ^ 1)).toInt64 = lN (n + 2) := lN_add n 2
    have c3 : 0 < lg_cmp (lN (n + 2)) 1024 ↔ 1024 < n + 2 := re_cmpP (by omega) (by decide)
    have e1 : ¬ nI (2 ^ 1) ≤ 1 := by decide
    have e2 : ¬ nI (2 ^ 1) = 1 := by decide
    rw [e]
    simp only [if_neg e1, if_neg e2, od, c3, show (1 : Nat) ≠ 0 ↔ True by decide, true_and, show (1 : Nat) = 0 ↔ False by decide, false_and, if_false, if_true, dd, dd3]
    simp only [Nat.pow_zero, Nat.pow_one, show 2 ^ 2 = 4 by decide, true_and] at hcs
    rcases hcs with ⟨rfl, q⟩ | ⟨rfl, q⟩ | ⟨rfl, rfl, q⟩ | ⟨rfl, rfl, q⟩
    all_goals (repeat' split)
    all_goals first | rfl | omega | (exfalso; omega) | exact absurd ‹(1 : Int32) = 0› (by decide) | exact absurd rfl ‹¬ (0 : Int32) = 0› | exact absurd ‹(2 : Int32) = 0› (by decide) | exact absurd rfl ‹¬ (1 : Int32) = 1› | exact absurd trivial ‹¬ True›
  · have e : lN n + (nI (2 ^ 2)).toInt64 = lN (n + 4) := lN_add n 4
    have c3 : 0 < lg_cmp (lN (n + 4)) 1024 ↔ 1024 < n + 4 := re_cmpP (by omega) (by decide)
    have e1 : ¬ nI (2 ^ 2) ≤ 1 := by decide
    have e2 : ¬ nI (2 ^ 2) = 1 := by decide
    rw [e]
    simp only [if_neg e1, if_neg e2, od, c3, show (2 : Nat) ≠ 0 ↔ True by decide, true_and, show (2 : Nat) = 0 ↔ False by decide, false_and, if_false, if_true, dd, dd3]
    simp only [Nat.pow_zero, Nat.pow_one, show 2 ^ 2 = 4 by decide, true_and] at hcs
    rcases hcs with ⟨rfl, q⟩ | ⟨rfl, q⟩ | ⟨rfl, rfl, q⟩ | ⟨rfl, rfl, q⟩
    all_goals (repeat' split)
    all_goals first | rfl | omega | (exfalso; omega) | exact absurd ‹(1 : Int32) = 0› (by decide) | exact absurd rfl ‹¬ (0 : Int32) = 0› | exact absurd ‹(2 : Int32) = 0› (by decide) | exact absurd rfl ‹¬ (1 : Int32) = 1› | exact absurd trivial ‹¬ True›
