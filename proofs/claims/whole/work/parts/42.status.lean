/-! Bits, and the status: as one word in the system, as eight numbers in the reference. -/
theorem re_mask (w M : Int32) (i : Nat) (hM : M.toBitVec = BitVec.twoPow 32 i) : w &&& M = if w.toBitVec.getLsbD i then M else 0 := by
  apply Int32.toBitVec_inj.mp
  rw [Int32.toBitVec_and, hM, BitVec.and_twoPow]
  split
  · exact hM.symm
  · rfl
theorem re_shb (w s : Int32) (i j : Nat) (hs : (s.toBitVec.smod 32).toNat = i) (h : i + j < 32) : (w >>> s).toBitVec.getLsbD j = w.toBitVec.getLsbD (i + j) := by
  rw [Int32.toBitVec_shiftRight, BitVec.sshiftRight', hs, BitVec.getLsbD_sshiftRight]
  simp [h, show j < 32 by omega]
theorem re_b1 (w s : Int32) (i : Nat) (hs : (s.toBitVec.smod 32).toNat = i) (h : i < 32) : (w >>> s) &&& 1 = b2 (w.toBitVec.getLsbD i) := by
  rw [re_mask _ 1 0 (by decide), re_shb w s i 0 hs (by omega)]
  unfold b2
  rfl
theorem re_and_or (w a b : Int32) : w &&& (a ||| b) = (w &&& a) ||| (w &&& b) := by
  apply Int32.toBitVec_inj.mp
  simp only [Int32.toBitVec_and, Int32.toBitVec_or]
  ext i
  simp
  cases w.toBitVec[i] <;> simp
def re_k3 (x y z : Bool) : Fin 8 := Fin.ofNat 8 ((if x then 4 else 0) + (if y then 2 else 0) + (if z then 1 else 0))
theorem re_or3 : ∀ x y z : Bool, (if x then (4 : Int32) else 0) ||| ((if y then 2 else 0) ||| (if z then 1 else 0)) = nI (re_k3 x y z).val := by decide +kernel
theorem re_or10 : ∀ t a x y z e n v o p : Bool, (if t then (32768 : Int32) else 0) ||| ((if a then 8192 else 0) ||| ((if x then 1024 else 0) ||| ((if y then 512 else 0) ||| ((if z then 256 else 0) ||| ((if e then 16 else 0) ||| ((if n then 8 else 0) ||| ((if v then 4 else 0) ||| ((if o then 2 else 0) ||| (if p then 1 else 0))))))))) = re_pk t a (re_k3 x y z) e n v o p := by decide +kernel
theorem re_status_bits (w : Int32) : w &&& 42783 = re_pk (w.toBitVec.getLsbD 15) (w.toBitVec.getLsbD 13) (re_k3 (w.toBitVec.getLsbD 10) (w.toBitVec.getLsbD 9) (w.toBitVec.getLsbD 8)) (w.toBitVec.getLsbD 4) (w.toBitVec.getLsbD 3) (w.toBitVec.getLsbD 2) (w.toBitVec.getLsbD 1) (w.toBitVec.getLsbD 0) := by
  rw [show (42783 : Int32) = 32768 ||| (8192 ||| (1024 ||| (512 ||| (256 ||| (16 ||| (8 ||| (4 ||| (2 ||| 1)))))))) by decide]
  rw [re_and_or, re_and_or, re_and_or, re_and_or, re_and_or, re_and_or, re_and_or, re_and_or, re_and_or]
  rw [re_mask w 32768 15 (by decide), re_mask w 8192 13 (by decide), re_mask w 1024 10 (by decide), re_mask w 512 9 (by decide), re_mask w 256 8 (by decide), re_mask w 16 4 (by decide), re_mask w 8 3 (by decide), re_mask w 4 2 (by decide), re_mask w 2 1 (by decide), re_mask w 1 0 (by decide)]
  exact re_or10 _ _ _ _ _ _ _ _ _ _
theorem re_mask3 (w : Int32) : zo_shr w 8 &&& 7 = nI (re_k3 (w.toBitVec.getLsbD 10) (w.toBitVec.getLsbD 9) (w.toBitVec.getLsbD 8)).val := by
  unfold zo_shr
  rw [show (7 : Int32) = 4 ||| (2 ||| 1) by decide, re_and_or, re_and_or, re_mask _ 4 2 (by decide), re_mask _ 2 1 (by decide), re_mask _ 1 0 (by decide)]
  rw [re_shb w _ 8 2 (by decide) (by decide), re_shb w _ 8 1 (by decide) (by decide), re_shb w _ 8 0 (by decide) (by decide)]
  exact re_or3 _ _ _
theorem re_pk13 : ∀ (t a : Bool) (k : Fin 8) (x n z v c : Bool), (re_pk t a k x n z v c).toBitVec.getLsbD 13 = a := by decide +kernel
theorem re_b2 : ∀ a b : Bool, b2 a = b2 b ↔ a = b := by decide
theorem re_sw (w : Int32) (t a : Bool) (k : Fin 8) (x n z v c : Bool) : ((w ^^^ re_pk t a k x n z v c) &&& 8192) = 0 ↔ w.toBitVec.getLsbD 13 = a := by
  rw [re_mask _ 8192 13 (by decide), Int32.toBitVec_xor, BitVec.getLsbD_xor, re_pk13]
  cases w.toBitVec.getLsbD 13 <;> cases a <;> decide
theorem re_7 : ¬ ((7 : Int32) < 0 ∨ 8 ≤ (7 : Int32).toNatClampNeg) := by decide
theorem re_7c : (7 : Int32).toNatClampNeg = 7 := by decide
/-- what a change of the status leaves alone -/
def re_kC (c c' : ZS) : Prop := (∀ k, k ≠ 13 → k ≠ 15 → c' 0 k = c 0 k) ∧ (∀ j, c' 1 j = c 1 j) ∧ (∀ j, c' 2 j = c 2 j) ∧ ∀ j, c' 4 j = c 4 j
def re_kM (m m' : ZS) : Prop := (∀ k, (k = 0 ∨ 11 ≤ k) → m' 0 k = m 0 k) ∧ ∀ j, m' 4 j = m 4 j
theorem re_D.keep {N : Nat} {c c' m m' : ZS} (h : re_D N c m) (h1 : ∀ k, k < 10 → c' 0 k = c 0 k) (h2 : ∀ k, 22 ≤ k → m' 0 k = m 0 k) (h3 : ∀ j, c' 4 j = c 4 j) (h4 : ∀ j, m' 4 j = m 4 j) : re_D N c' m' := by
  unfold re_D
  rw [h1 0 (by decide), h1 1 (by decide), h1 2 (by decide), h1 3 (by decide), h1 4 (by decide), h1 5 (by decide), h1 6 (by decide), h1 7 (by decide), h1 8 (by decide), h1 9 (by decide), h2 22 (by decide), h2 23 (by decide), h2 24 (by decide), h2 25 (by decide), h2 26 (by decide), h2 27 (by decide), h2 28 (by decide), h2 29 (by decide), h2 30 (by decide)]
  obtain ⟨d1, d2, d3, d4, d5, d6, d7, d8, d9, d10⟩ := h
  exact ⟨d1, d2, d3, d4, d5, d6, d7, d8, d9, fun j => by rw [h3, h4]; exact d10 j⟩
theorem re_X.keep {c c' m m' : ZS} (h : re_X c m) (h1 : ∀ k, 16 ≤ k → k < 21 → c' 0 k = c 0 k) (h2 : ∀ k, 11 ≤ k → k < 15 → m' 0 k = m 0 k) : re_X c' m' := by
  unfold re_X
  rw [h1 16 (by decide) (by decide), h1 17 (by decide) (by decide), h1 18 (by decide) (by decide), h1 19 (by decide) (by decide), h1 20 (by decide) (by decide), h2 11 (by decide) (by decide), h2 12 (by decide) (by decide), h2 13 (by decide) (by decide), h2 14 (by decide) (by decide)]
  exact h
theorem re_chg {c m : ZS} (hP : re_P c m) (hF : re_F c m) (w : Int32) : ∃ c' m', f_G_changeStatus c w = some c' ∧ f_M_setStatus m w = some m' ∧ re_P c' m' ∧ re_F c' m' ∧ re_kC c c' ∧ re_kM m m' ∧ c' 0 15 = w &&& 42783 := by
  obtain ⟨p1, p2, p3, p4, p5⟩ := hP
  obtain ⟨t, a, k, x, n, z, v, cc, h0, h1, h2, h3, h4, h5, h6, h7, h8⟩ := hF
  have b15 : zo_shr w 15 &&& 1 = b2 (w.toBitVec.getLsbD 15) := re_b1 w _ 15 (by decide) (by decide)
  have b13 : zo_shr w 13 &&& 1 = b2 (w.toBitVec.getLsbD 13) := re_b1 w _ 13 (by decide) (by decide)
  have b4 : zo_shr w 4 &&& 1 = b2 (w.toBitVec.getLsbD 4) := re_b1 w _ 4 (by decide) (by decide)
  have b3 : zo_shr w 3 &&& 1 = b2 (w.toBitVec.getLsbD 3) := re_b1 w _ 3 (by decide) (by decide)
  have b2' : zo_shr w 2 &&& 1 = b2 (w.toBitVec.getLsbD 2) := re_b1 w _ 2 (by decide) (by decide)
  have b1' : zo_shr w 1 &&& 1 = b2 (w.toBitVec.getLsbD 1) := re_b1 w _ 1 (by decide) (by decide)
  have b0 : w &&& 1 = b2 (w.toBitVec.getLsbD 0) := by rw [re_mask w 1 0 (by decide)]; rfl
  have e4 : (zs_up m 0 3 (b2 (w.toBitVec.getLsbD 15))) 0 4 = b2 a := h2
  simp only [f_G_changeStatus, f_G_changeStatus_18, f_M_setStatus, f_M_setAbove, f_M_setAbove_32, zs_nm, b15, b13, b4, b3, b2', b1', b0, re_mask3, re_7, re_7c, if_false, if_true, ite_false, ite_true]
  rw [h0, e4]
  by_cases hs : w.toBitVec.getLsbD 13 = a
  · rw [if_pos ((re_sw w t a k x n z v cc).mpr hs), if_pos ((re_b2 _ _).mpr hs)]
    refine ⟨_, _, rfl, rfl, ⟨p1, p2, p3, p4, p5⟩, ⟨_, _, _, _, _, _, _, _, re_status_bits w, rfl, rfl, rfl, rfl, rfl, rfl, rfl, rfl⟩, ⟨fun i g1 g2 => ?_, fun j => rfl, fun j => rfl, fun j => rfl⟩, ⟨fun i g => ?_, fun j => rfl⟩, rfl⟩
    · simp [zs_up, g1, g2]
    · have : i ≠ 3 ∧ i ≠ 4 ∧ i ≠ 5 ∧ i ≠ 6 ∧ i ≠ 7 ∧ i ≠ 8 ∧ i ≠ 9 ∧ i ≠ 10 := by omega
      simp [zs_up, this]
  · rw [if_neg (fun e => hs ((re_sw w t a k x n z v cc).mp e)), if_neg (fun e => hs ((re_b2 _ _).mp e))]
    refine ⟨_, _, rfl, rfl, ⟨p1, p2, fun j => ?_, ?_, p5⟩, ⟨_, _, _, _, _, _, _, _, re_status_bits w, rfl, rfl, rfl, rfl, rfl, rfl, rfl, rfl⟩, ⟨fun i g1 g2 => ?_, fun j => rfl, fun j => rfl, fun j => rfl⟩, ⟨fun i g => ?_, fun j => rfl⟩, rfl⟩
    · show (if j = 7 then m 0 1 else m 3 j) = if j = 7 then c 0 13 else c 3 j
      rw [p4, p3]
    · show m 3 7 = c 3 7
      exact p3 7
    · simp [zs_up, g1, g2]
    · have : i ≠ 1 ∧ i ≠ 3 ∧ i ≠ 4 ∧ i ≠ 5 ∧ i ≠ 6 ∧ i ≠ 7 ∧ i ≠ 8 ∧ i ≠ 9 ∧ i ≠ 10 := by omega
      simp [zs_up, this]
theorem re_status {N : Nat} {c m : ZS} (h : re_B N c m) (a : Int32) : re_Cc N (f_F_status c a) (f_M_status m a) := by
  obtain ⟨hP, hF, hD, hX, h0⟩ := re_th (v := 0) h
  obtain ⟨c', m', e1, e2, hP', hF', kC, kM, e3⟩ := re_chg hP hF a
  unfold re_Cc
  simp only [f_F_status, f_M_status, zs_nm, e1, e2, Option.bind_some, re_packed hF']
  exact ⟨_, _, rfl, rfl, rfl, hP', hF', hD.keep (fun k hk => kC.1 k (by omega) (by omega)) (fun k hk => kM.1 k (by omega)) kC.2.2.2 kM.2, hX.keep (fun k h1 h2 => kC.1 k (by omega) (by omega)) (fun k h1 h2 => kM.1 k (by omega)), (kM.1 15 (by omega)).trans h0⟩
