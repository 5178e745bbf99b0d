/-! Flags and arithmetic: sums and differences. -/
theorem re_pk8 : ∀ (b t a : Bool) (k : Fin 8) (x n z v c : Bool), (if b then re_pk t a k x n z v c ||| 8 else re_pk t a k x n z v c &&& (8 ^^^ (-1))) = re_pk t a k x b z v c := by decide +kernel
theorem re_pk4 : ∀ (b t a : Bool) (k : Fin 8) (x n z v c : Bool), (if b then re_pk t a k x n z v c ||| 4 else re_pk t a k x n z v c &&& (4 ^^^ (-1))) = re_pk t a k x n b v c := by decide +kernel
theorem re_pk2 : ∀ (b t a : Bool) (k : Fin 8) (x n z v c : Bool), (if b then re_pk t a k x n z v c ||| 2 else re_pk t a k x n z v c &&& (2 ^^^ (-1))) = re_pk t a k x n z b c := by decide +kernel
theorem re_pk1 : ∀ (b t a : Bool) (k : Fin 8) (x n z v c : Bool), (if b then re_pk t a k x n z v c ||| 1 else re_pk t a k x n z v c &&& (1 ^^^ (-1))) = re_pk t a k x n z v b := by decide +kernel
theorem re_pk16 : ∀ (b t a : Bool) (k : Fin 8) (x n z v c : Bool), (if b then re_pk t a k x n z v c ||| 16 else re_pk t a k x n z v c &&& (16 ^^^ (-1))) = re_pk t a k b n z v c := by decide +kernel
theorem re_mk {c : ZS} {w : Int32} (h : c 0 15 = w) (bit : Int32) (b : Bool) : f_G_mark c bit (b2 b) = some (zs_up c 0 15 (if b then w ||| bit else w &&& (bit ^^^ (-1)))) := by
  cases b
  · show (if (0 : Int32) = 0 then _ else _) = _
    rw [if_pos rfl, h]; rfl
  · show (if (1 : Int32) = 0 then _ else _) = _
    rw [if_neg (by decide), h]; rfl
section
variable {t a : Bool} {k : Fin 8} {x n z v cc : Bool}
theorem re_mkN (c : ZS) (b : Bool) : f_G_mark (zs_up c 0 15 (re_pk t a k x n z v cc)) 8 (b2 b) = some (zs_up c 0 15 (re_pk t a k x b z v cc)) := by
  rw [re_mk (w := re_pk t a k x n z v cc) rfl, re_pk8, re_up2]
theorem re_mkZ (c : ZS) (b : Bool) : f_G_mark (zs_up c 0 15 (re_pk t a k x n z v cc)) 4 (b2 b) = some (zs_up c 0 15 (re_pk t a k x n b v cc)) := by
  rw [re_mk (w := re_pk t a k x n z v cc) rfl, re_pk4, re_up2]
theorem re_mkV (c : ZS) (b : Bool) : f_G_mark (zs_up c 0 15 (re_pk t a k x n z v cc)) 2 (b2 b) = some (zs_up c 0 15 (re_pk t a k x n z b cc)) := by
  rw [re_mk (w := re_pk t a k x n z v cc) rfl, re_pk2, re_up2]
theorem re_mkC (c : ZS) (b : Bool) : f_G_mark (zs_up c 0 15 (re_pk t a k x n z v cc)) 1 (b2 b) = some (zs_up c 0 15 (re_pk t a k x n z v b)) := by
  rw [re_mk (w := re_pk t a k x n z v cc) rfl, re_pk1, re_up2]
theorem re_mkX (c : ZS) (b : Bool) : f_G_mark (zs_up c 0 15 (re_pk t a k x n z v cc)) 16 (b2 b) = some (zs_up c 0 15 (re_pk t a k b n z v cc)) := by
  rw [re_mk (w := re_pk t a k x n z v cc) rfl, re_pk16, re_up2]
theorem re_own {c : ZS} {w : Int32} (h : c 0 15 = w) : c = zs_up c 0 15 w := by rw [← h, re_up1]
theorem re_bit {y : Nat} {s : Nat} (hs : s < 3) : nI y &&& nI (re_W s / 2) = 0 ↔ y.testBit (re_I s) = false := by
  rw [re_top _ hs, re_tb (re_Il hs)]
theorem re_zer {y : Nat} {s : Nat} (hs : s < 3) : nI y &&& nI (re_W s - 1) = 0 ↔ y % re_W s = 0 := by
  have := Nat.mod_lt y (re_Wp s)
  have := re_Wle hs
  rw [re_andW hs]
  show nI _ = nI 0 ↔ _
  rw [re_inj (by omega) (by decide)]
theorem re_mkSign (c : ZS) {y s : Nat} (hs : s < 3) : f_A_markSign (zs_up c 0 15 (re_pk t a k x n z v cc)) (nI y) (nI s) = some (zs_up c 0 15 (re_pk t a k x (y.testBit (re_I s)) (decide (y % re_W s = 0)) v cc)) := by
  have fin : ∀ (b : Bool), f_A_markSign_20 (zs_up c 0 15 (re_pk t a k x n z v cc)) (nI y) (nI s) (b2 b) 8 = some (zs_up c 0 15 (re_pk t a k x b (decide (y % re_W s = 0)) v cc)) := by
    intro b
    simp only [f_A_markSign_20, re_mkN, Option.bind_some, re_maskOf hs, re_zer hs, f_A_markSign_42]
    by_cases g : y % re_W s = 0
    · rw [if_pos g, decide_eq_true g]
      show (f_G_mark _ 4 (b2 true)).bind _ = _
      rw [re_mkZ]; rfl
    · rw [if_neg g, decide_eq_false g]
      show (f_G_mark _ 4 (b2 false)).bind _ = _
      rw [re_mkZ]; rfl
  simp only [f_A_markSign, re_topOf hs, Option.bind_some, re_bit hs]
  by_cases g : y.testBit (re_I s) = false
  · rw [if_pos g, g]; exact fin false
  · rw [if_neg g, show y.testBit (re_I s) = true by simpa using g]; exact fin true
theorem re_mkResult {c : ZS} (h : c 0 15 = re_pk t a k x n z v cc) {y s : Nat} (hs : s < 3) : f_A_markResult c (nI y) (nI s) = some (zs_up c 0 15 (re_pk t a k x (y.testBit (re_I s)) (decide (y % re_W s = 0)) false false)) := by
  conv => lhs; rw [re_own h]
  simp only [f_A_markResult, re_mkSign _ hs, Option.bind_some]
  rw [show (0 : Int32) = b2 false from rfl, re_mkV]
  simp only [Option.bind_some]
  rw [re_mkC]
  rfl
end
theorem re_lz {w : Nat} (hw : w < 2 ^ 63) : lg_cmp (lN w) 0 = 0 ↔ w = 0 := by
  unfold lg_cmp
  have e0 : (0 : Int64) = lN 0 := rfl
  rw [e0]
  by_cases g : w = 0
  · subst g
    rw [if_neg (by decide), if_pos rfl]
    simp
  · rw [if_pos (show lN w > lN 0 from (pk_lLT (by decide) hw).mpr (by omega))]
    exact ⟨fun h => absurd h (by decide), fun h => absurd h g⟩
theorem re_lbit {w s : Nat} (hs : s < 3) : ((zo_lshr (lN w) (nI (re_I s + 1) - 1)) &&& 1).toInt32 = b2 (w.testBit (re_I s)) := by
  have := re_Il hs
  rw [nI_pred, re_l1 _ _ (by omega), re_ltb (by omega)]
theorem re_tells {m : ZS} {w s : Nat} (hs : s < 3) (hw : w < 2 ^ 63) : f_M_tells m (lN w) (nI s) = some (zs_up (zs_up (zs_up (zs_up m 0 7 (b2 (w.testBit (re_I s)))) 0 8 (b2 (decide (w = 0)))) 0 9 0) 0 10 0) := by
  simp only [f_M_tells, f_M_tells_27, re_bits hs, Option.bind_some, zs_nm, re_lbit hs, re_lz hw]
  by_cases g : w = 0
  · rw [if_pos g, decide_eq_true g]; rfl
  · rw [if_neg g, decide_eq_false g]; rfl
/-- the flags alone have changed -/
def re_Q (c m c' m' : ZS) : Prop := (∀ i j, (i ≠ 0 ∨ j ≠ 15) → c' i j = c i j) ∧ (∀ i j, (i ≠ 0 ∨ j < 6 ∨ 10 < j) → m' i j = m i j) ∧ re_F c' m'
theorem re_Q.toM {N : Nat} {c m c' m' : ZS} (hM : re_M N c m) (h : re_Q c m c' m') : re_M N c' m' := by
  obtain ⟨hP, hF, hD, hX, hT⟩ := hM
  obtain ⟨q1, q2, q3⟩ := h
  refine ⟨⟨fun j => ?_, fun j => ?_, fun j => ?_, ?_, ?_⟩, q3, hD.keep (fun k hk => q1 0 k (by omega)) (fun k hk => q2 0 k (by omega)) (fun j => q1 4 j (by omega)) (fun j => q2 4 j (by omega)), hX.keep (fun k h1 h2 => q1 0 k (by omega)) (fun k h1 h2 => q2 0 k (by omega)), ?_⟩
  · rw [q2 1 j (by omega), q1 1 j (by omega)]; exact hP.1 j
  · rw [q2 2 j (by omega), q1 2 j (by omega)]; exact hP.2.1 j
  · rw [q2 3 j (by omega), q1 3 j (by omega)]; exact hP.2.2.1 j
  · rw [q2 0 1 (by omega), q1 0 13 (by omega)]; exact hP.2.2.2.1
  · rw [q2 0 2 (by omega), q1 0 14 (by omega)]; exact hP.2.2.2.2
  · unfold re_T
    rw [q1 0 10 (by omega), q1 0 11 (by omega), q1 0 12 (by omega), q2 0 15 (by omega), q2 0 16 (by omega), q2 0 17 (by omega)]
    exact hT
theorem re_Q.toK {c m c' m' : ZS} (h : re_Q c m c' m') : re_K c m c' m' := ⟨fun k hk => h.1 0 k (by omega), h.2.1 0 0 (by omega), h.2.1 0 11 (by omega), fun k h1 h2 => h.2.1 0 k (by omega)⟩
theorem re_tbm {u s : Nat} (hs : s < 3) : (u % re_W s).testBit (re_I s) = u.testBit (re_I s) := by
  rw [re_WI hs, Nat.testBit_mod_two_pow]
  simp
theorem re_wcmp {p s : Nat} (hs : s < 3) (hp : p < 2 ^ 34) : lg_cmp (lN p) (lN (re_W s - 1)) ≤ 0 ↔ p < re_W s := by
  have hW := re_Wle hs
  have hW0 := re_Wp s
  have h := re_cmpP (a := p) (b := re_W s - 1) (by omega) (by omega)
  have : lg_cmp (lN p) (lN (re_W s - 1)) ≤ 0 ↔ ¬ 0 < lg_cmp (lN p) (lN (re_W s - 1)) := by
    rw [Int32.le_iff_toInt_le, Int32.lt_iff_toInt_lt]; omega
  rw [this, h]; omega
theorem re_flV (A B r s : Nat) (hs : s < 3) (P Q : Nat) (h : (P.testBit (re_I s) = A.testBit (re_I s) ∧ Q.testBit (re_I s) = B.testBit (re_I s))) : ((zo_lshr ((lN P ^^^ lN r) &&& (lN Q ^^^ lN r)) (nI (re_I s + 1) - 1)) &&& 1).toInt32 = b2 (((A.testBit (re_I s)).xor (r.testBit (re_I s))) && ((B.testBit (re_I s)).xor (r.testBit (re_I s)))) := by
  have := re_Il hs
  rw [nI_pred, re_l1 _ _ (by omega), Int64.toBitVec_and, Int64.toBitVec_xor, Int64.toBitVec_xor, BitVec.getLsbD_and, BitVec.getLsbD_xor, BitVec.getLsbD_xor, re_ltb (by omega), re_ltb (by omega), re_ltb (by omega), h.1, h.2]
theorem re_fcV (A B r s : Nat) (hs : s < 3) : (((nI A ^^^ nI r) &&& (nI B ^^^ nI r)) &&& nI (re_W s / 2)) = 0 ↔ (((A.testBit (re_I s)).xor (r.testBit (re_I s))) && ((B.testBit (re_I s)).xor (r.testBit (re_I s)))) = false := by
  have := re_Il hs
  rw [re_top _ hs, Int32.toBitVec_and, Int32.toBitVec_xor, Int32.toBitVec_xor, BitVec.getLsbD_and, BitVec.getLsbD_xor, BitVec.getLsbD_xor, re_tb (by omega), re_tb (by omega), re_tb (by omega)]
def re_f5 (m : ZS) (n z c x v : Bool) : ZS := zs_up (zs_up (zs_up (zs_up (zs_up (zs_up (zs_up m 0 7 (b2 n)) 0 8 (b2 z)) 0 9 0) 0 10 0) 0 10 (b2 c)) 0 6 (b2 x)) 0 9 (b2 v)
theorem re_f5Q {c m : ZS} {t a : Bool} {k : Fin 8} (r1 : m 0 3 = b2 t) (r2 : m 0 4 = b2 a) (r3 : m 0 5 = nI k.val) (n z cc x v : Bool) : re_Q c m (zs_up c 0 15 (re_pk t a k x n z v cc)) (re_f5 m n z cc x v) := by
  refine ⟨fun i j hh => ?_, fun i j hh => ?_, t, a, k, _, _, _, _, _, rfl, r1, r2, r3, rfl, rfl, rfl, rfl, rfl⟩
  · unfold zs_up; split
    · rw [if_neg (by omega)]
    · rfl
  · by_cases hi : i = 0
    · subst hi; simp [re_f5, zs_up, show j ≠ 6 by omega, show j ≠ 7 by omega, show j ≠ 8 by omega, show j ≠ 9 by omega, show j ≠ 10 by omega]
    · simp [re_f5, zs_up, hi]
theorem re_sum {c m : ZS} (hF : re_F c m) {A B P Q s : Nat} (hs : s < 3) (hA : A < 2 ^ 32) (hB : B < 2 ^ 32) (hP : P < re_W s) (hQ : Q < re_W s) (h : (A % re_W s = P ∧ B % re_W s = Q) ∨ (A % re_W s = Q ∧ B % re_W s = P)) : ∃ (r : Nat) (c' m' : ZS), r < re_W s ∧ f_A_sum c (nI A) (nI B) (nI s) = some (nI r, c') ∧ f_M_sum m (lN P) (lN Q) (nI s) = some (lN r, m') ∧ re_Q c m c' m' := by
  obtain ⟨t, a, k, x, n, z, v, cc, r0, r1, r2, r3, r4, r5, r6, r7, r8⟩ := hF
  have hW := re_Wle hs
  have hW0 := re_Wp s
  have hI := re_Il hs
  have er : (A + B) % re_W s = (P + Q) % re_W s := by
    rcases h with ⟨h1, h2⟩ | ⟨h1, h2⟩ <;> rw [Nat.add_mod, h1, h2]
    rw [Nat.add_comm]
  have ecy : decide ((P + Q) % re_W s < A % re_W s) = decide (¬ P + Q < re_W s) := by
    have hA' : A % re_W s = P ∨ A % re_W s = Q := by rcases h with h | h <;> simp [h.1]
    congr 1
    apply propext
    by_cases g : P + Q < re_W s
    · rw [Nat.mod_eq_of_lt g]
      constructor
      · intro hh; rcases hA' with e | e <;> omega
      · intro hh; exact absurd g hh
    · rw [Nat.mod_eq_sub_mod (by omega), Nat.mod_eq_of_lt (by omega)]
      constructor
      · intro _; exact g
      · intro _; rcases hA' with e | e <;> omega
  have etb : (P.testBit (re_I s) = A.testBit (re_I s) ∧ Q.testBit (re_I s) = B.testBit (re_I s)) ∨ (P.testBit (re_I s) = B.testBit (re_I s) ∧ Q.testBit (re_I s) = A.testBit (re_I s)) := by
    rcases h with ⟨h1, h2⟩ | ⟨h1, h2⟩
    · left; rw [← h1, ← h2]; exact ⟨re_tbm hs, re_tbm hs⟩
    · right; rw [← h1, ← h2]; exact ⟨re_tbm hs, re_tbm hs⟩
  have hr : (P + Q) % re_W s < re_W s := Nat.mod_lt _ hW0
  refine ⟨(P + Q) % re_W s, zs_up c 0 15 (re_pk t a k (decide (¬ P + Q < re_W s)) (((P + Q) % re_W s).testBit (re_I s)) (decide ((P + Q) % re_W s = 0)) (((A.testBit (re_I s)).xor (((P + Q) % re_W s).testBit (re_I s))) && ((B.testBit (re_I s)).xor (((P + Q) % re_W s).testBit (re_I s)))) (decide (¬ P + Q < re_W s))), re_f5 m (((P + Q) % re_W s).testBit (re_I s)) (decide ((P + Q) % re_W s = 0)) (decide (¬ P + Q < re_W s)) (decide (¬ P + Q < re_W s)) (((A.testBit (re_I s)).xor (((P + Q) % re_W s).testBit (re_I s))) && ((B.testBit (re_I s)).xor (((P + Q) % re_W s).testBit (re_I s)))), hr, ?_, ?_, re_f5Q r1 r2 r3 _ _ _ _ _⟩
  · conv => lhs; rw [re_own r0]
    have hAm : A % re_W s < 2 ^ 32 := by have := Nat.mod_lt A hW0; omega
    simp only [f_A_sum, f_A_sum_78, re_maskOf hs, Option.bind_some, zs_nm, nI_add, re_andW hs, er, re_below (show (P + Q) % re_W s < 2 ^ 32 by omega) hAm, ecy, re_mkSign _ hs, re_mkC, re_mkX, re_topOf hs, re_fcV _ _ _ _ hs]
    have em : (P + Q) % re_W s % re_W s = (P + Q) % re_W s := Nat.mod_mod _ _
    by_cases g : (((A.testBit (re_I s)).xor (((P + Q) % re_W s).testBit (re_I s))) && ((B.testBit (re_I s)).xor (((P + Q) % re_W s).testBit (re_I s)))) = false
    · rw [if_pos g, show (0 : Int32) = b2 false from rfl, re_mkV, g, em]; rfl
    · rw [if_neg g, show (1 : Int32) = b2 true from rfl, re_mkV, em, show (((A.testBit (re_I s)).xor (((P + Q) % re_W s).testBit (re_I s))) && ((B.testBit (re_I s)).xor (((P + Q) % re_W s).testBit (re_I s)))) = true from (Bool.not_eq_false _).mp g]; rfl
  · simp only [f_M_sum, f_M_sum_36, lN_add, re_cutl hs (show P + Q < 2 ^ 64 by omega), Option.bind_some, re_tells hs (show (P + Q) % re_W s < 2 ^ 63 by omega), re_whole hs, re_wcmp hs (show P + Q < 2 ^ 34 by omega), re_bits hs, zs_nm]
    have ev : ((zo_lshr ((lN P ^^^ lN ((P + Q) % re_W s)) &&& (lN Q ^^^ lN ((P + Q) % re_W s))) (nI (re_I s + 1) - 1)) &&& 1).toInt32 = b2 (((A.testBit (re_I s)).xor (((P + Q) % re_W s).testBit (re_I s))) && ((B.testBit (re_I s)).xor (((P + Q) % re_W s).testBit (re_I s)))) := by
      rcases etb with e | e
      · exact re_flV _ _ _ _ hs _ _ e
      · rw [re_flV _ _ _ _ hs _ _ e, Bool.and_comm]
    rw [ev]
    by_cases g : P + Q < re_W s
    · rw [if_pos g, decide_eq_false (p := ¬ P + Q < re_W s) (fun hh => hh g)]; rfl
    · rw [if_neg g, decide_eq_true (p := ¬ P + Q < re_W s) g]; rfl
theorem re_lsubW {P Q s : Nat} (hs : s < 3) (hP : P < re_W s) (hQ : Q < re_W s) : (lN P - lN Q).toBitVec.toNat % re_W s = (P + re_W s - Q) % re_W s := by
  have hW := re_Wle hs
  rw [Int64.toBitVec_sub, BitVec.toNat_sub, re_ltn (by omega), re_ltn (by omega)]
  rcases re_s3 hs with rfl | rfl | rfl
  · rw [re_W0] at *; omega
  · rw [re_W1] at *; omega
  · rw [re_W2] at *; omega
theorem re_nsubW {A B s : Nat} (hs : s < 3) (hB : B < 2 ^ 32) : (A + (2 ^ 32 - B)) % re_W s = (A % re_W s + re_W s - B % re_W s) % re_W s := by
  rcases re_s3 hs with rfl | rfl | rfl
  · rw [re_W0] at *; omega
  · rw [re_W1] at *; omega
  · rw [re_W2] at *; omega
theorem re_lge {P Q : Nat} (hP : P < 2 ^ 63) (hQ : Q < 2 ^ 63) : 0 ≤ lg_cmp (lN P) (lN Q) ↔ ¬ P < Q := by
  rw [← re_cmpN hP hQ, Int32.le_iff_toInt_le, Int32.lt_iff_toInt_lt]; omega
theorem re_flV2 (A B r s : Nat) (hs : s < 3) (P Q : Nat) (h : (P.testBit (re_I s) = A.testBit (re_I s) ∧ Q.testBit (re_I s) = B.testBit (re_I s))) : ((zo_lshr ((lN P ^^^ lN Q) &&& (lN P ^^^ lN r)) (nI (re_I s + 1) - 1)) &&& 1).toInt32 = b2 (((A.testBit (re_I s)).xor (B.testBit (re_I s))) && ((A.testBit (re_I s)).xor (r.testBit (re_I s)))) := by
  have := re_Il hs
  rw [nI_pred, re_l1 _ _ (by omega), Int64.toBitVec_and, Int64.toBitVec_xor, Int64.toBitVec_xor, BitVec.getLsbD_and, BitVec.getLsbD_xor, BitVec.getLsbD_xor, re_ltb (by omega), re_ltb (by omega), re_ltb (by omega), h.1, h.2]
theorem re_fcV2 (A B r s : Nat) (hs : s < 3) : (((nI A ^^^ nI B) &&& (nI A ^^^ nI r)) &&& nI (re_W s / 2)) = 0 ↔ (((A.testBit (re_I s)).xor (B.testBit (re_I s))) && ((A.testBit (re_I s)).xor (r.testBit (re_I s)))) = false := by
  have := re_Il hs
  rw [re_top _ hs, Int32.toBitVec_and, Int32.toBitVec_xor, Int32.toBitVec_xor, BitVec.getLsbD_and, BitVec.getLsbD_xor, BitVec.getLsbD_xor, re_tb (by omega), re_tb (by omega), re_tb (by omega)]
/-- compare, and difference as compare with X -/
theorem re_cmpD {c m : ZS} (hF : re_F c m) {A B P Q s : Nat} (hs : s < 3) (hA : A < 2 ^ 32) (hB : B < 2 ^ 32) (hP : A % re_W s = P) (hQ : B % re_W s = Q) : ∃ (r : Nat) (c1 m1 c2 m2 : ZS), r < re_W s ∧ f_A_compare c (nI A) (nI B) (nI s) = some (nI r, c1) ∧ f_M_difference m (lN P) (lN Q) (nI s) 1 = some (lN r, m1) ∧ re_Q c m c1 m1 ∧ f_A_difference c (nI A) (nI B) (nI s) = some (nI r, c2) ∧ f_M_difference m (lN P) (lN Q) (nI s) 0 = some (lN r, m2) ∧ re_Q c m c2 m2 := by
  obtain ⟨t, a, k, x, n, z, v, cc, r0, r1, r2, r3, r4, r5, r6, r7, r8⟩ := hF
  have hW := re_Wle hs
  have hW0 := re_Wp s
  have hI := re_Il hs
  have hPl : P < re_W s := by rw [← hP]; exact Nat.mod_lt _ hW0
  have hQl : Q < re_W s := by rw [← hQ]; exact Nat.mod_lt _ hW0
  have e1 : nI A - nI B = nI (A + (2 ^ 32 - B)) := re_nsub (by omega)
  have e2 : (A + (2 ^ 32 - B)) % re_W s = (P + re_W s - Q) % re_W s := by rw [re_nsubW hs hB, hP, hQ]
  generalize hr : (P + re_W s - Q) % re_W s = r at e2
  have hrl : r < re_W s := by rw [← hr]; exact Nat.mod_lt _ hW0
  have em : r % re_W s = r := Nat.mod_eq_of_lt hrl
  have etb : P.testBit (re_I s) = A.testBit (re_I s) ∧ Q.testBit (re_I s) = B.testBit (re_I s) := by rw [← hP, ← hQ]; exact ⟨re_tbm hs, re_tbm hs⟩
  generalize hV : (((A.testBit (re_I s)).xor (B.testBit (re_I s))) && ((A.testBit (re_I s)).xor (r.testBit (re_I s)))) = V
  have hc1 : f_A_compare c (nI A) (nI B) (nI s) = some (nI r, zs_up c 0 15 (re_pk t a k x (r.testBit (re_I s)) (decide (r = 0)) V (decide (P < Q)))) := by
    conv => lhs; rw [re_own r0]
    simp only [f_A_compare, f_A_compare_66, re_maskOf hs, Option.bind_some, zs_nm, e1, re_andW hs, e2, hP, hQ, re_mkSign _ hs, re_below (show P < 2 ^ 32 by omega) (show Q < 2 ^ 32 by omega), re_mkC, re_topOf hs, re_fcV2 _ _ _ _ hs, em, hV]
    cases V
    · rw [if_pos rfl, show (0 : Int32) = b2 false from rfl, re_mkV]; rfl
    · rw [if_neg (by decide), show (1 : Int32) = b2 true from rfl, re_mkV]; rfl
  have hm : ∀ b : Bool, f_M_difference m (lN P) (lN Q) (nI s) (b2 b) = some (lN r, re_f5 m (r.testBit (re_I s)) (decide (r = 0)) (decide (P < Q)) (if b then x else decide (P < Q)) V) := by
    intro b
    simp only [f_M_difference, f_M_difference_30, f_M_difference_50, re_cut hs, re_lsubW hs hPl hQl, hr, Option.bind_some, re_tells hs (show r < 2 ^ 63 by omega), re_lge (show P < 2 ^ 63 by omega) (show Q < 2 ^ 63 by omega), re_bits hs, zs_nm, re_flV2 A B r s hs P Q etb, hV]
    have ex : ∀ y1 y2 y3 y4 : Int32, (zs_up (zs_up (zs_up (zs_up (zs_up m 0 7 y1) 0 8 y2) 0 9 0) 0 10 0) 0 10 y3) 0 6 = b2 x := fun _ _ _ _ => r4
    by_cases g : P < Q
    · rw [if_neg (fun hh => hh g), decide_eq_true g]
      cases b
      · rfl
      · show (if (1 : Int32) = 0 then _ else _) = _
        rw [if_neg (by decide), ex _ _ _ 0]; rfl
    · rw [if_pos g, decide_eq_false g]
      cases b
      · rfl
      · show (if (1 : Int32) = 0 then _ else _) = _
        rw [if_neg (by decide), ex _ _ _ 0]; rfl
  refine ⟨r, _, _, zs_up c 0 15 (re_pk t a k (decide (P < Q)) (r.testBit (re_I s)) (decide (r = 0)) V (decide (P < Q))), _, hrl, hc1, hm true, re_f5Q r1 r2 r3 _ _ _ _ _, ?_, hm false, re_f5Q r1 r2 r3 _ _ _ _ _⟩
  simp only [f_A_difference, hc1, Option.bind_some]
  have hh : f_G_has (zs_up c 0 15 (re_pk t a k x (r.testBit (re_I s)) (decide (r = 0)) V (decide (P < Q)))) 1 = some (b2 (decide (P < Q)), zs_up c 0 15 (re_pk t a k x (r.testBit (re_I s)) (decide (r = 0)) V (decide (P < Q)))) := (re_hasC rfl).1
  simp only [hh, Option.bind_some, re_mkX]
