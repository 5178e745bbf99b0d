/-! The relation between the system's state and the reference's, between calls. -/
def b2 (b : Bool) : Int32 := if b then 1 else 0
def re_pk (t a : Bool) (k : Fin 8) (x n z v c : Bool) : Int32 := (((((((32768 * b2 t) + (8192 * b2 a)) + (256 * nI k.val)) + (16 * b2 x)) + (8 * b2 n)) + (4 * b2 z)) + (2 * b2 v)) + b2 c
def re_P (c m : ZS) : Prop := (∀ j, m 1 j = c 1 j &&& 255) ∧ (∀ j, m 2 j = c 2 j) ∧ (∀ j, m 3 j = c 3 j) ∧ m 0 1 = c 0 13 ∧ m 0 2 = c 0 14
def re_F (c m : ZS) : Prop := ∃ (t a : Bool) (k : Fin 8) (x n z v cc : Bool), c 0 15 = re_pk t a k x n z v cc ∧ m 0 3 = b2 t ∧ m 0 4 = b2 a ∧ m 0 5 = nI k.val ∧ m 0 6 = b2 x ∧ m 0 7 = b2 n ∧ m 0 8 = b2 z ∧ m 0 9 = b2 v ∧ m 0 10 = b2 cc
/-- timer and line; g: how many bytes have gone -/
def re_D (N : Nat) (c m : ZS) : Prop := (c 0 0 = if m 0 23 = 0 then 256 else m 0 23) ∧ m 0 22 = c 0 1 ∧ (m 0 24 = c 0 2 ∧ (c 0 2 = 0 ∨ c 0 2 = 1)) ∧ (m 0 25 = c 0 3 ∧ (c 0 3 = 0 ∨ c 0 3 = 1)) ∧ (m 0 27 = c 0 6 ∧ (c 0 6 = 0 ∨ c 0 6 = 1)) ∧
  ((c 0 4 = 0 ∧ m 0 26 = -1) ∨ (c 0 4 = 1 ∧ m 0 26 = c 0 5 ∧ ∃ b : Nat, b < 256 ∧ c 0 5 = nI b)) ∧ ((c 0 7 = 0 ∧ m 0 28 = -1) ∨ (¬ c 0 7 = 0 ∧ m 0 28 = c 0 8 ∧ (∃ b : Nat, b < 256 ∧ c 0 8 = nI b) ∧ m 0 29 = c 0 7)) ∧
  (∃ g : Nat, g ≤ N ∧ c 0 9 = nI g) ∧ m 0 30 = c 0 9 ∧ ∀ j, m 4 j = c 4 j
def re_X (c m : ZS) : Prop := m 0 13 = c 0 16 ∧ m 0 14 = c 0 17 ∧ m 0 12 = c 0 19 ∧ (c 0 18 = 0 ∨ c 0 18 = 1) ∧ (c 0 20 = 0 ∨ c 0 20 = 1) ∧ m 0 11 = if c 0 18 = 0 then (if c 0 20 = 0 then 0 else 1) else 2
def re_B (N : Nat) (c m : ZS) : Prop := re_P c m ∧ re_F c m ∧ re_D N c m ∧ re_X c m ∧ m 0 15 = 0
theorem re_B0 : re_B 0 zs_c0 zs_m0 := by
  refine ⟨⟨fun j => (by show (0 : Int32) = 0 &&& 255; decide), fun j => rfl, fun j => rfl, rfl, rfl⟩, ⟨false, true, 7, false, false, false, false, false, by decide, rfl, rfl, rfl, rfl, rfl, rfl, rfl, rfl⟩, ⟨rfl, rfl, ⟨rfl, Or.inl rfl⟩, ⟨rfl, Or.inl rfl⟩, ⟨rfl, Or.inl rfl⟩, Or.inl ⟨rfl, rfl⟩, Or.inl ⟨rfl, rfl⟩, ⟨0, Nat.le_refl _, rfl⟩, rfl, fun j => rfl⟩, ⟨rfl, rfl, rfl, Or.inl rfl, Or.inl rfl, rfl⟩, rfl⟩
theorem re_D.mono {N N' : Nat} {c m : ZS} (h : re_D N c m) (hN : N ≤ N') : re_D N' c m := by
  obtain ⟨h1, h2, h3, h4, h5, h6, h7, ⟨g, h8, h9⟩, h10⟩ := h
  exact ⟨h1, h2, h3, h4, h5, h6, h7, ⟨g, Nat.le_trans h8 hN, h9⟩, h10⟩
theorem re_B.mono {N N' : Nat} {c m : ZS} (h : re_B N c m) (hN : N ≤ N') : re_B N' c m := ⟨h.1, h.2.1, h.2.2.1.mono hN, h.2.2.2⟩
/-- what a pair of calls must come to: a truth, a number, through a wrapper; a number at once -/
def re_Wb (N : Nat) (fC : Option (Option Int32 × ZS)) (fM : Option (Int32 × ZS)) : Prop := ∃ (z : Option Int32 × ZS) (p : Int32 × ZS), fC = some z ∧ fM = some p ∧ ((z.1 = none ∧ p.2 0 0 = 1) ∨ (p.2 0 0 = 0 ∧ z.1 = some p.1 ∧ (p.1 = 0 ∨ p.1 = 1))) ∧ re_B N z.2 p.2
def re_Wi (N : Nat) (fC : Option (Option Int32 × ZS)) (fM : Option (Int32 × ZS)) : Prop := ∃ (z : Option Int32 × ZS) (p : Int32 × ZS), fC = some z ∧ fM = some p ∧ ((z.1 = none ∧ p.2 0 0 = 1) ∨ (p.2 0 0 = 0 ∧ z.1 = some p.1)) ∧ re_B N z.2 p.2
def re_Cc (N : Nat) (fC fM : Option (Int32 × ZS)) : Prop := ∃ (z p : Int32 × ZS), fC = some z ∧ fM = some p ∧ z.1 = p.1 ∧ re_B N z.2 p.2
theorem re_mix {N : Nat} {τ c m : ZS} (h : re_B N τ m) : re_B N (zs_mix τ c) m := h
theorem re_out {N : Nat} {τ m : ZS} {v : Int32} (h : re_B N τ m) : re_B N (zs_up τ 5 0 v) m := h
theorem re_lg (a : Int64) : lg_cmp a a = 0 := by
  unfold lg_cmp
  rw [if_neg (show ¬ a > a from fun h => absurd h (lg_lt_not h)), if_pos rfl]
theorem re_nm {x : Int32} (h : ∃ b : Nat, b < 256 ∧ x = nI b) : ¬ x = -1 := by
  obtain ⟨b, hb, rfl⟩ := h
  intro e
  have h1 := congrArg Int32.toInt e
  rw [nI_toInt (by omega)] at h1
  have h2 : (-1 : Int32).toInt = -1 := by decide
  rw [h2] at h1
  omega
