/-! What an instruction leaves; results of logic, multiply, divide, check. -/
def re_O (N f : Nat) (th : Int32) (c m : ZS) : Prop := re_M N c m ∧ (c 0 18 = 0 ∧ c 0 20 = 0) ∧ c 0 23 = nI f ∧ m 0 18 = nI f ∧ m 0 20 = 0 ∧ m 0 0 = th ∧ ((c 0 22 = 0 ∧ m 0 19 = 0) ∨ ∃ e : Nat, c 0 22 = nI e ∧ m 0 19 = nI e ∧ (5 ≤ e ∧ e ≤ 7 ∨ 32 ≤ e ∧ e < 48))
set_option maxRecDepth 100000 in
theorem re_O.keep {N f : Nat} {th : Int32} {c m c' m' : ZS} (h : re_O N f th c m) (hM : re_M N c' m') (hK : re_K c m c' m') : re_O N f th c' m' := by
  obtain ⟨h1, h2, h3, h4, h5, h6, h7⟩ := h
  refine ⟨hM, ⟨(hK.1 18 (by decide)).trans h2.1, (hK.1 20 (by decide)).trans h2.2⟩, (hK.1 23 (by decide)).trans h3, (hK.2.2.2 18 (by decide) (by decide)).trans h4, (hK.2.2.2 20 (by decide) (by decide)).trans h5, hK.2.1.trans h6, ?_⟩
  rw [hK.1 22 (by decide), hK.2.2.2 19 (by decide) (by decide)]
  exact h7
set_option maxRecDepth 100000 in
theorem re_O.pend {N f : Nat} {th : Int32} {c m : ZS} (h : re_O N f th c m) {e : Nat} (he : 5 ≤ e ∧ e ≤ 7 ∨ 32 ≤ e ∧ e < 48) : re_O N f th (zs_up c 0 22 (nI e)) (zs_up m 0 19 (nI e)) := by
  obtain ⟨⟨hP, hF, hD, hX, hT⟩, h2, h3, h4, h5, h6, h7⟩ := h
  exact ⟨⟨hP, hF, hD, hX, hT⟩, h2, h3, h4, h5, h6, Or.inr ⟨e, rfl, rfl, he⟩⟩
set_option maxRecDepth 100000 in
theorem re_comm (c : ZS) (i j k l : Nat) (x y : Int32) (h : i ≠ k ∨ j ≠ l) : zs_up (zs_up c i j x) k l y = zs_up (zs_up c k l y) i j x := by
  funext a b
  unfold zs_up
  by_cases h1 : a = i
  · by_cases h2 : a = k
    · by_cases h3 : b = j
      · have h4 : ¬ b = l := by omega
        simp only [if_pos h1, if_pos h2, if_pos h3, if_neg h4]
      · simp only [if_pos h1, if_pos h2, if_neg h3]
    · simp only [if_pos h1, if_neg h2]
  · simp only [if_neg h1]
set_option maxRecDepth 100000 in
theorem re_mkT {c m : ZS} (hF : re_F c m) {s x w : Nat} (hs : s < 3) (hxw : x % re_W s = w) : ∃ (P : Int32) (m' : ZS), (∀ c'' : ZS, c'' 0 15 = c 0 15 → f_A_markResult c'' (nI x) (nI s) = some (zs_up c'' 0 15 P)) ∧ f_M_tells m (lN w) (nI s) = some m' ∧ re_Q c m (zs_up c 0 15 P) m' := by
  obtain ⟨t, a, k, x', n, z, v, cc, r0, r1, r2, r3, r4, r5, r6, r7, r8⟩ := hF
  have hWl := re_Wle hs
  have hw : w < re_W s := by rw [← hxw]; exact Nat.mod_lt _ (re_Wp s)
  refine ⟨re_pk t a k x' (w.testBit (re_I s)) (decide (w = 0)) false false, zs_up (zs_up (zs_up (zs_up m 0 7 (b2 (w.testBit (re_I s)))) 0 8 (b2 (decide (w = 0)))) 0 9 0) 0 10 0, fun c'' hc => ?_, re_tells hs (by omega), fun i j hj => ?_, fun i j hj => ?_, t, a, k, x', _, _, _, _, rfl, r1, r2, r3, r4, rfl, rfl, rfl, rfl⟩
  · rw [re_mkResult (hc.trans r0) hs, hxw, ← hxw, re_tbm hs]
  · unfold zs_up; split
    · rw [if_neg (by omega)]
    · rfl
  · by_cases hi : i = 0
    · subst hi; simp [zs_up, show j ≠ 7 by omega, show j ≠ 8 by omega, show j ≠ 9 by omega, show j ≠ 10 by omega]
    · simp [zs_up, hi]
set_option maxRecDepth 100000 in
/-- a result into a data register, with marks -/
theorem re_putMk {N : Nat} {c m : ZS} (h : re_M N c m) (h0 : c 0 10 = 0) {s r x w : Nat} (hs : s < 3) (hr : r < 8) (hxw : x % re_W s = w) (e25 : c 0 25 = nI s) (e26 : c 0 26 = nI r) : ∃ c' m1 m', f_P_putMarked c (nI x) = some c' ∧ f_M_tells m (lN w) (nI s) = some m1 ∧ f_M_setD m1 (nI r) (nI s) (lN w) = some m' ∧ re_M N c' m' ∧ re_K c m c' m' := by
  have g0 : m 0 15 = 0 := by rw [h.2.2.2.2.1, h0]
  have hw : w < re_W s := by rw [← hxw]; exact Nat.mod_lt _ (re_Wp s)
  obtain ⟨P, m1, k1, k2, hQ⟩ := re_mkT h.2.1 hs hxw
  have hM1 := hQ.toM h
  obtain ⟨D, p1, p2⟩ := re_put (c := c) (m := m1) (x := x) (w := w) hr hs (by rw [hxw, Nat.mod_eq_of_lt hw]) (hM1.1.2.1 r) (by rw [hQ.2.1 0 15 (by omega)]; exact g0)
  have hd := re_dput hM1 r D
  refine ⟨zs_up (zs_up c 0 15 P) 2 r D, m1, zs_up m1 2 r D, ?_, k2, p2, hd.1, hQ.toK.trans hd.2⟩
  simp only [f_P_putMarked, f_P_put, e26, e25, p1, Option.bind_some]
  have e25' : (zs_up c 2 r D) 0 25 = nI s := e25
  rw [e25', k1 _ (show (zs_up c 2 r D) 0 15 = c 0 15 from rfl)]
  show some _ = some _
  rw [re_comm c 2 r 0 15 D P (Or.inl (by decide))]
set_option maxRecDepth 100000 in
theorem re_put2 {c : ZS} {r : Nat} (hr : r < 8) (x : Int32) : f_G_putData c (nI r) 2 x = some (zs_up c 2 r x) := by
  have e : ¬ (nI r < 0 ∨ 8 ≤ r) := by have := re_ri hr; rwa [re_cl hr] at this
  simp only [f_G_putData, f_F_maskOf, Option.bind_some, zs_nm, re_r8 hr, re_cl hr, if_neg e, if_neg (show ¬ (2 : Int32) = 0 by decide), if_neg (show ¬ (2 : Int32) = 1 by decide)]
  rw [show ((-1 : Int32) ^^^ (-1)) = 0 by decide, Int32.and_zero, Int32.zero_or, Int32.and_neg_one]
set_option maxRecDepth 100000 in
theorem re_mult {N : Nat} {c m : ZS} (h : re_M N c m) {r u v : Nat} (hr : r < 8) (hv : v < 65536) (e26 : c 0 26 = nI r) : ∃ c' m1, f_P_multiply c (nI (u % 65536)) (nI v) = some c' ∧ f_M_tells m (lN (u % 65536 * v)) 2 = some m1 ∧ re_M N c' (zs_up m1 2 r (lN (u % 65536 * v)).toInt32) ∧ re_K c m c' (zs_up m1 2 r (lN (u % 65536 * v)).toInt32) := by
  have hb : u % 65536 * v < 4294967296 := by
    have h1 : u % 65536 ≤ 65535 := by omega
    have h2 : v ≤ 65535 := by omega
    exact Nat.lt_of_le_of_lt (Nat.mul_le_mul h1 h2) (by decide)
  obtain ⟨P, m1, k1, k2, hQ⟩ := re_mkT (s := 2) (x := u % 65536 * v) h.2.1 (by decide) (Nat.mod_eq_of_lt (by rw [re_W2]; exact hb))
  have hM1 := hQ.toM h
  have hd := re_dput hM1 r (nI (u % 65536 * v))
  rw [lN_i]
  refine ⟨_, m1, ?_, k2, hd.1, hQ.toK.trans hd.2⟩
  simp only [f_P_multiply, e26, pk_mul, re_put2 hr, Option.bind_some]
  have k1' := k1 (zs_up c 2 r (nI (u % 65536 * v))) rfl
  have k1'' : f_A_markResult (zs_up c 2 r (nI (u % 65536 * v))) (nI (u % 65536 * v)) 2 = _ := k1'
  rw [k1'', re_comm c 2 r 0 15 _ P (Or.inl (by decide))]; rfl
set_option maxRecDepth 100000 in
theorem re_ncong {a b : Nat} (h : a % 2 ^ 32 = b % 2 ^ 32) : nI a = nI b := by rw [re_n a, re_n b, h]
set_option maxRecDepth 100000 in
theorem re_shlN (B d : Nat) (hd : ((nI d &&& 31).toBitVec.smod 32).toNat = d) : zo_shl (nI B) (nI d) = nI (B * 2 ^ d) := by
  apply Int32.toBitVec_inj.mp
  apply BitVec.eq_of_toNat_eq
  unfold zo_shl
  rw [pk_shl _ _ d hd, re_bv, re_bv, BitVec.toNat_ofNat, BitVec.toNat_ofNat, Nat.mod_mul_mod]
set_option maxRecDepth 100000 in
theorem re_lg0 (a b : Int64) : lg_cmp a b = 0 ↔ a = b := by
  unfold lg_cmp
  by_cases g : a > b
  · rw [if_pos g]
    refine ⟨fun h => absurd h (by decide), fun h => ?_⟩
    subst h
    exact absurd g (fun hh => lg_lt_not hh hh)
  · rw [if_neg g]
    by_cases g2 : a = b
    · rw [if_pos g2]; exact ⟨fun _ => g2, fun _ => rfl⟩
    · rw [if_neg g2]; exact ⟨fun h => absurd h (by decide), fun h => absurd h g2⟩
set_option maxRecDepth 100000 in
theorem re_lgP (a b : Int64) : 0 < lg_cmp a b ↔ b.toInt < a.toInt := by
  unfold lg_cmp
  by_cases g : a > b
  · rw [if_pos g]; rw [gt_iff_lt, Int64.lt_iff_toInt_lt] at g; exact ⟨fun _ => g, fun _ => by decide⟩
  · rw [if_neg g]
    rw [gt_iff_lt, Int64.lt_iff_toInt_lt] at g
    by_cases g2 : a = b
    · rw [if_pos g2]; exact ⟨fun h => absurd h (by decide), fun h => absurd h g⟩
    · rw [if_neg g2]; exact ⟨fun h => absurd h (by decide), fun h => absurd h g⟩
set_option maxRecDepth 100000 in
theorem re_lgN (a b : Int64) : lg_cmp a b < 0 ↔ a.toInt < b.toInt := by
  unfold lg_cmp
  by_cases g : a > b
  · rw [if_pos g]; rw [gt_iff_lt, Int64.lt_iff_toInt_lt] at g; exact ⟨fun h => absurd h (by decide), fun h => by omega⟩
  · rw [if_neg g]
    rw [gt_iff_lt, Int64.lt_iff_toInt_lt] at g
    by_cases g2 : a = b
    · rw [if_pos g2]; exact ⟨fun h => absurd h (by decide), fun h => by rw [g2] at h; omega⟩
    · rw [if_neg g2]
      refine ⟨fun _ => ?_, fun _ => by decide⟩
      have : ¬ a.toInt = b.toInt := fun hh => g2 (Int64.toInt_inj.mp hh)
      omega
set_option maxRecDepth 100000 in
theorem re_fit (a : Int64) : lg_cmp a (a.toInt32.toInt16.toInt32.toInt64) = 0 ↔ (¬ lg_cmp a (-32768) < 0 ∧ ¬ 0 < lg_cmp a 32767) := by
  rw [re_lg0, re_lgP, re_lgN, ← Int64.toInt_inj, show (-32768 : Int64).toInt = -32768 by decide, show (32767 : Int64).toInt = 32767 by decide, Int32.toInt_toInt64, Int16.toInt_toInt32, Int32.toInt_toInt16, Int64.toInt_toInt32]
  rw [Int.bmod_bmod_of_dvd (by decide), Int.bmod_def]
  generalize a.toInt = A
  split <;> omega
set_option maxRecDepth 100000 in
/-- what both do with a quotient a and a rest b -/
theorem re_quot {N : Nat} {c m : ZS} (h : re_M N c m) {r : Nat} (hr : r < 8) (a b : Int64) : (∃ c' m', f_A_divide_58 c (nI r) a b 0 = some c' ∧ f_M_divides_125 m (nI r) a b 0 = some m' ∧ re_M N c' m' ∧ re_K c m c' m') ∧ ∃ c' m', f_A_divide_58 c (nI r) a b 1 = some c' ∧ f_M_divides_125 m (nI r) a b 1 = some m' ∧ re_M N c' m' ∧ re_K c m c' m' := by
  have e : ¬ (nI r < 0 ∨ 8 ≤ r) := by have := re_ri hr; rwa [re_cl hr] at this
  constructor
  · obtain ⟨t, a', k, x', n, z, v, cc, r0, r1, r2, r3, r4, r5, r6, r7, r8⟩ := id h.2.1
    have hQ : re_Q c m (zs_up c 0 15 (re_pk t a' k x' n z true false)) (zs_up (zs_up m 0 9 1) 0 10 0) := by
      refine ⟨fun i j hj => ?_, fun i j hj => ?_, t, a', k, x', n, z, true, false, rfl, r1, r2, r3, r4, r5, r6, rfl, rfl⟩
      · unfold zs_up; split
        · rw [if_neg (by omega)]
        · rfl
      · by_cases hi : i = 0
        · subst hi; simp [zs_up, show j ≠ 9 by omega, show j ≠ 10 by omega]
        · simp [zs_up, hi]
    refine ⟨_, _, ?_, rfl, hQ.toM h, hQ.toK⟩
    conv => lhs; rw [re_own r0]
    simp only [f_A_divide_58, if_true]
    rw [show (1 : Int32) = b2 true from rfl, re_mkV]
    simp only [Option.bind_some]
    rw [show b2 true = 1 from rfl, show (0 : Int32) = b2 false from rfl, re_mkC]
    rfl
  · obtain ⟨P, m1, k1, k2, hQ⟩ := re_mkT (s := 1) (x := a.toBitVec.toNat) h.2.1 (by decide) rfl
    have hM1 := hQ.toM h
    have ec : ∀ (z : ZS) (x : Int64), f_M_cut z x 1 = some (lN (x.toBitVec.toNat % 65536), z) := fun z x => re_cut (s := 1) (by decide) x
    have ea : a.toInt32 = nI a.toBitVec.toNat := by conv => lhs; rw [re_lof a, lN_i]
    have eb : b.toInt32 = nI b.toBitVec.toNat := by conv => lhs; rw [re_lof b, lN_i]
    have e1 : zo_lshl (lN (b.toBitVec.toNat % 65536)) 16 = lN (b.toBitVec.toNat % 65536 * 2 ^ 16) := re_lshlN _ 16 (by decide)
    have e2 : zo_shl (nI b.toBitVec.toNat) 16 = nI (b.toBitVec.toNat * 2 ^ 16) := re_shlN _ 16 (by decide)
    have e3 : nI a.toBitVec.toNat &&& 65535 = nI (a.toBitVec.toNat % 65536) := re_andW (s := 1) (by decide) _
    have e4 : nI (b.toBitVec.toNat * 2 ^ 16) = nI (b.toBitVec.toNat % 65536 * 2 ^ 16) := by
      generalize b.toBitVec.toNat = B
      exact re_ncong (by omega)
    have hd := re_dput hM1 r (nI ((b.toBitVec.toNat % 65536 * 2 ^ 16) ||| (a.toBitVec.toNat % 65536)))
    refine ⟨_, _, ?_, ?_, hd.1, hQ.toK.trans hd.2⟩
    · simp only [f_A_divide_58, if_neg (show ¬ (1 : Int32) = 0 by decide), ea, eb, e2, e3, e4, re_nor, re_put2 hr, Option.bind_some]
      have k1' : f_A_markResult (zs_up c 2 r (nI ((b.toBitVec.toNat % 65536 * 2 ^ 16) ||| (a.toBitVec.toNat % 65536)))) (nI a.toBitVec.toNat) 1 = _ := k1 _ rfl
      rw [k1', re_comm c 2 r 0 15 _ P (Or.inl (by decide))]; rfl
    · have k2' : f_M_tells m (lN (a.toBitVec.toNat % 65536)) 1 = some m1 := k2
      simp only [f_M_divides_125, if_neg (show ¬ (1 : Int32) = 0 by decide), ec, Option.bind_some, k2', re_cl hr, if_neg e, zs_nm, e1, re_lor, lN_i]
set_option maxRecDepth 100000 in
theorem re_lz0 (d : Int64) : lg_cmp d 0 = 0 ↔ d = 0 := re_lg0 d 0
set_option maxRecDepth 100000 in
theorem re_divU {N f : Nat} {th : Int32} {c m : ZS} (h : re_O N f th c m) (h0 : c 0 10 = 0) {r : Nat} (hr : r < 8) (e26 : c 0 26 = nI r) (n d : Int64) (k : Int32) : ∃ c' m', f_P_divide c n d k = some c' ∧ f_M_divides_51 m (nI r) k n d = some m' ∧ re_O N f th c' m' := by
  simp only [f_P_divide, f_M_divides_51, re_lz0, zs_nm, e26, f_A_divide, f_M_divides_107]
  by_cases gd : d = 0
  · rw [if_pos gd, if_pos gd]
    exact ⟨_, _, rfl, rfl, h.pend (e := 5) (by decide)⟩
  · simp only [if_neg gd]
    obtain ⟨⟨c1, m1, a1, a2, a3, a4⟩, c2, m2, b1, b2, b3, b4⟩ := re_quot h.1 hr (zo_ldiv n d) (zo_lrem n d)
    have o1 := h.keep a3 a4
    have o2 := h.keep b3 b4
    by_cases gk : k = 0
    · simp only [if_pos gk]
      by_cases go : 0 < lg_cmp (zo_ldiv n d) 65535
      · simp only [if_pos go, a1, a2]; exact ⟨c1, m1, rfl, rfl, o1⟩
      · simp only [if_neg go, b1, b2]; exact ⟨c2, m2, rfl, rfl, o2⟩
    · simp only [if_neg gk]
      by_cases g1 : lg_cmp (zo_ldiv n d) (-32768) < 0
      · simp only [if_pos g1, if_neg (show ¬ lg_cmp (zo_ldiv n d) ((zo_ldiv n d).toInt32.toInt16.toInt32.toInt64) = 0 from fun hh => ((re_fit _).mp hh).1 g1), a1, a2]
        exact ⟨c1, m1, rfl, rfl, o1⟩
      · by_cases g2 : 0 < lg_cmp (zo_ldiv n d) 32767
        · simp only [if_neg g1, if_pos g2, if_neg (show ¬ lg_cmp (zo_ldiv n d) ((zo_ldiv n d).toInt32.toInt16.toInt32.toInt64) = 0 from fun hh => ((re_fit _).mp hh).2 g2), a1, a2]
          exact ⟨c1, m1, rfl, rfl, o1⟩
        · simp only [if_neg g1, if_neg g2, if_pos (show lg_cmp (zo_ldiv n d) ((zo_ldiv n d).toInt32.toInt16.toInt32.toInt64) = 0 from (re_fit _).mpr ⟨g1, g2⟩), b1, b2]
          exact ⟨c2, m2, rfl, rfl, o2⟩
set_option maxRecDepth 100000 in
theorem re_divide {N f : Nat} {th : Int32} {c m : ZS} (h : re_O N f th c m) (h0 : c 0 10 = 0) {r u v : Nat} (hr : r < 8) (hu : u < 2 ^ 32) (hv : v < 65536) (e26 : c 0 26 = nI r) (e2 : c 2 r = nI u) : (∃ c' m', f_P_divide c ((nI u).toInt64 &&& 4294967295) (nI v).toInt64 0 = some c' ∧ f_M_divides m (nI r) (lN v) 0 = some m' ∧ re_O N f th c' m') ∧ ∃ c' m', f_P_divide c (nI u).toInt64 (nI v).toInt16.toInt32.toInt64 1 = some c' ∧ f_M_divides m (nI r) (lN v) 1 = some m' ∧ re_O N f th c' m' := by
  have g0 : m 0 15 = 0 := by rw [h.1.2.2.2.2.1, h0]
  have e : ¬ (nI r < 0 ∨ 8 ≤ r) := by have := re_ri hr; rwa [re_cl hr] at this
  have e2m : m 2 r = nI u := by rw [h.1.1.2.1, e2]
  constructor
  · obtain ⟨c', m', f1, f2, f3⟩ := re_divU h h0 hr e26 ((nI u).toInt64 &&& 4294967295) (lN v) 0
    refine ⟨c', m', by rw [nI_l (n := v) (by omega)]; exact f1, ?_, f3⟩
    simp only [f_M_divides, if_pos g0, if_true, re_cl hr, if_neg e, e2m, f_M_divides_34, f2]
  · obtain ⟨c', m', f1, f2, f3⟩ := re_divU h h0 hr e26 (nI u).toInt64 (nI v).toInt16.toInt32.toInt64 1
    refine ⟨c', m', f1, ?_, f3⟩
    have es : f_M_signed m (lN v) 1 = some ((nI v).toInt16.toInt32, m) := by
      have := re_signed (m := m) (s := 1) (by decide) (lN v)
      rw [lN_i] at this
      exact this
    simp only [f_M_divides, if_pos g0, if_neg (show ¬ (1 : Int32) = 0 by decide), re_cl hr, if_neg e, e2m, f_M_divides_34, es, Option.bind_some, f2]
set_option maxRecDepth 100000 in
theorem re_check {N f : Nat} {th : Int32} {c m : ZS} (h : re_O N f th c m) (h0 : c 0 10 = 0) {r u v : Nat} (hr : r < 8) (hu : u < 2 ^ 32) (hv : v < 65536) (e2 : c 2 r = nI u) : ∃ c' m', f_P_check c (nI u).toInt16.toInt32 (nI v).toInt16.toInt32 = some c' ∧ f_M_checks m (nI r) (lN v) = some m' ∧ re_O N f th c' m' := by
  have g0 : m 0 15 = 0 := by rw [h.1.2.2.2.2.1, h0]
  have e : ¬ (nI r < 0 ∨ 8 ≤ r) := by have := re_ri hr; rwa [re_cl hr] at this
  have e2m : m 2 r = nI u := by rw [h.1.1.2.1, e2]
  have es : ∀ y : Nat, f_M_signed m (lN y) 1 = some ((nI y).toInt16.toInt32, m) := by
    intro y
    have := re_signed (m := m) (s := 1) (by decide) (lN y)
    rw [lN_i] at this
    exact this
  have ec : f_M_cut m (nI u).toInt64 1 = some (lN (u % 65536), m) := re_cutn (s := 1) (by decide) hu
  simp only [f_P_check, f_M_checks, if_pos g0, re_cl hr, if_neg e, e2m, ec, Option.bind_some, es, re_sxm]
  generalize (nI u).toInt16.toInt32 = a
  generalize (nI v).toInt16.toInt32 = b
  have key : ∀ y : Bool, ∃ c' m', f_P_check_24 c (b2 y) 8 = some c' ∧ f_M_checks_51 m (b2 y) = some m' ∧ re_O N f th c' m' := by
    intro y
    obtain ⟨t, a', k, x', n, z, v, cc, r0, r1, r2, r3, r4, r5, r6, r7, r8⟩ := id h.1.2.1
    have hQ : re_Q c m (zs_up c 0 15 (re_pk t a' k x' y z v cc)) (zs_up m 0 7 (b2 y)) := by
      refine ⟨fun i j hj => ?_, fun i j hj => ?_, t, a', k, x', y, z, v, cc, rfl, r1, r2, r3, r4, rfl, r6, r7, r8⟩
      · unfold zs_up; split
        · rw [if_neg (by omega)]
        · rfl
      · by_cases hi : i = 0
        · subst hi; simp [zs_up, show j ≠ 7 by omega]
        · simp [zs_up, hi]
    refine ⟨_, _, ?_, rfl, (h.keep (hQ.toM h.1) hQ.toK).pend (e := 6) (by decide)⟩
    conv => lhs; rw [re_own r0]
    simp only [f_P_check_24, re_mkN, Option.bind_some, zs_nm]
    rfl
  have key9 : ∃ c' m', f_P_check_9 c a = some c' ∧ f_M_checks_40 m a = some m' ∧ re_O N f th c' m' := by
    simp only [f_P_check_9, f_M_checks_40]
    by_cases g : 0 ≤ a
    · simp only [if_pos g]; exact key false
    · simp only [if_neg g]; exact key true
  by_cases g1 : a < 0
  · simp only [if_pos g1]; exact key9
  · simp only [if_neg g1]
    by_cases g2 : a ≤ b
    · simp only [if_pos g2]; exact ⟨c, m, rfl, rfl, h⟩
    · simp only [if_neg g2]; exact key9
