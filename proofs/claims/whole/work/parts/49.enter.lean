/-! Exceptions: one entry, and the whole of raise. -/
theorem re_pushG {N : Nat} {c m : ZS} (h : re_M N c m) {s x w : Nat} (hs : s < 3) (hx : x < 2 ^ 32) (hw : w < 2 ^ 62) (hxw : x % re_W s = w % re_W s) : ∃ (c' m' : ZS), f_Q_push c (nI s) (nI x) = some c' ∧ (∀ F : ZS → Option ZS, (if m 0 15 = 0 then (f_M_push m (nI s) (lN w)).bind F else F m) = F m') ∧ re_M N c' m' ∧ re_K c m c' m' ∧ c' 0 14 = c 0 14 := by
  by_cases h0 : c 0 10 = 0
  · have g0 : m 0 15 = 0 := by rw [h.2.2.2.2.1, h0]
    obtain ⟨c', m', f1, f2, hM, hK, -, h14, -⟩ := re_push h h0 hs hx hw hxw
    exact ⟨c', m', f1, fun F => by rw [if_pos g0, f2]; rfl, hM, hK, h14⟩
  · have g0 : ¬ m 0 15 = 0 := by rw [h.2.2.2.2.1]; exact h0
    exact ⟨c, m, by simp only [f_Q_push, if_neg h0], fun F => by rw [if_neg g0], h, re_K.refl, rfl⟩
noncomputable def re_G (K : ZS → Int32 → Int32 → Int32 → Int32 → Option ZS) (m : ZS) (l3 l4 : Int32) : Option ZS :=
  if (m 0 15) = 0 then f_M_exception_238 K m l3 l4 else if l4 ≤ 3 then f_M_exception_238 K m l3 l4 else f_M_exception_239 K m l3 l4 1
theorem re_vec {N : Nat} {c m : ZS} (h : re_M N c m) {e : Nat} (he : e < 48) : ∃ (c' m' : ZS), f_E_enter_116 c (nI e) = some c' ∧ (∀ K l3, f_M_exception_189 K m l3 (nI e) = re_G K m' l3 (nI e)) ∧ re_M N c' m' ∧ re_K c m c' m' := by
  have e4 : (4 : Int32) * nI e = nI (4 * e) := pk_mul 4 e
  by_cases h0 : c 0 10 = 0
  · have g0 : m 0 15 = 0 := by rw [h.2.2.2.2.1, h0]
    obtain ⟨v, c1, m1, hv, f1, f2, hA, -, -⟩ := re_read (n := 4 * e) (s := 2) (by omega) (by decide) h.1.1 h.2.2.1 g0
    have hZ := hA.z h.1.1
    have hok : ¬ re_ok (4 * e) 2 = 0 := by rw [re_ok1 (by omega) (by omega)]; decide
    have hT := hZ.toT (Or.inr rfl) h0 g0
    obtain ⟨hM1, hK⟩ := hZ.toM (Or.inr rfl) h h0
    obtain ⟨hP1, hF1, hD1, hX1, hT1⟩ := id hM1
    have h10 : c1 0 10 = 0 := hT.2.mpr hok
    have g10 : m1 0 15 = 0 := by rw [hT1.1, h10]
    have f1' : f_B_read c (4 * nI e) 2 = some (nI v, c1) := by rw [e4]; exact f1
    have f2' : f_M_read m (4 * nI e) 2 = some (lN v, m1) := by rw [e4]; exact f2
    refine ⟨zs_up c1 0 14 (nI v), zs_up m1 0 2 (nI v), ?_, fun K l3 => ?_, ⟨⟨hP1.1, hP1.2.1, hP1.2.2.1, hP1.2.2.2.1, rfl⟩, hF1, hD1, hX1, hT1⟩, ⟨fun k hk => ?_, hK.2.1, hK.2.2.1, fun k h1 h2 => ?_⟩⟩
    · simp only [f_E_enter_116, if_pos h0, f1', Option.bind_some, zs_nm]
    · simp only [f_M_exception_189, f2', Option.bind_some, zs_nm, if_pos g10, f_M_exception_218, lN_i]
      rfl
    · rw [← hK.1 k hk]; simp [zs_up, show k ≠ 14 by omega]
    · rw [← hK.2.2.2 k h1 h2]; simp [zs_up, show k ≠ 2 by omega]
  · have g0 : ¬ m 0 15 = 0 := by rw [h.2.2.2.2.1]; exact h0
    refine ⟨c, m, by simp only [f_E_enter_116, if_neg h0], fun K l3 => ?_, h, re_K.refl⟩
    simp only [f_M_exception_189, re_mrd0 g0, Option.bind_some, zs_nm, if_neg g0, f_M_exception_218, re_up1]
    simp only [re_G, if_neg g0]
theorem re_pkin : ∀ (t a : Bool) (k : Fin 8) (x n z v c : Bool), (re_pk t a k x n z v c ||| 8192) &&& (-32769) = re_pk false true k x n z v c := by decide +kernel
theorem re_pkl2 : ∀ (k : Fin 8) (x n z v c : Bool), (re_pk false true k x n z v c &&& (-1793)) ||| (zo_shl (nI 26 - 24) 8) = re_pk false true 2 x n z v c := by decide +kernel
theorem re_pkl4 : ∀ (k : Fin 8) (x n z v c : Bool), (re_pk false true k x n z v c &&& (-1793)) ||| (zo_shl (nI 28 - 24) 8) = re_pk false true 4 x n z v c := by decide +kernel
theorem re_pkn : ∀ (t a : Bool) (k : Fin 8) (x n z v c : Bool), ∃ u : Fin 65536, re_pk t a k x n z v c = nI u.val := by
  intro t a k x n z v c
  refine ⟨⟨((((((((32768 * t.toNat) + (8192 * a.toNat)) + (256 * k.val)) + (16 * x.toNat)) + (8 * n.toNat)) + (4 * z.toNat)) + (2 * v.toNat)) + c.toNat), ?_⟩, ?_⟩
  · have := k.isLt
    cases t <;> cases a <;> cases x <;> cases n <;> cases z <;> cases v <;> cases c <;> simp <;> omega
  · have hb : ∀ b : Bool, b2 b = nI b.toNat := by decide
    unfold re_pk
    simp only [hb]
    rw [show (32768 : Int32) = nI 32768 from rfl, show (8192 : Int32) = nI 8192 from rfl, show (256 : Int32) = nI 256 from rfl, show (16 : Int32) = nI 16 from rfl, show (8 : Int32) = nI 8 from rfl, show (4 : Int32) = nI 4 from rfl, show (2 : Int32) = nI 2 from rfl]
    simp only [pk_mul, nI_add]
theorem re_lit4 {e : Nat} (he : e < 48) : (4 : Int32) ≤ nI e ↔ 4 ≤ e := nI_leI (a := 4) (by decide) (by omega)
theorem re_acc1 {c : ZS} {e : Nat} (he : e = 2 ∨ e = 3) : f_E_isOfAccess c (nI e) = some (1, c) := by
  rcases he with rfl | rfl <;> rfl
theorem re_acc0 {c : ZS} {e : Nat} (h4 : 4 ≤ e) (he : e < 48) : f_E_isOfAccess c (nI e) = some (0, c) := by
  have h1 : ¬ nI e = 2 := by show ¬ nI e = nI 2; rw [nI_eq (by omega) (by decide)]; omega
  have h2 : ¬ nI e = 3 := by show ¬ nI e = nI 3; rw [nI_eq (by omega) (by decide)]; omega
  simp only [f_E_isOfAccess, if_neg h1, if_neg h2]
/-- which mask an entry leaves -/
def re_L (e : Nat) (l3 : Int32) (k k' : Fin 8) : Prop := (¬ (24 < e ∧ e < 32) ∧ (l3 = -1 ∨ e < 9) ∧ k' = k) ∨ (e = 26 ∧ l3 = 2 ∧ k' = 2) ∨ (e = 28 ∧ l3 = 4 ∧ k' = 4)
theorem re_stIn {c : ZS} {e : Nat} (he : e < 48) {l3 : Int32} {k k' : Fin 8} (hl : re_L e l3 k k') (t a x n z v cc : Bool) : f_E_statusIn c (nI e) (re_pk t a k x n z v cc) = some (re_pk false true k' x n z v cc, c) := by
  have h1 : nI e ≤ 24 ↔ e ≤ 24 := nI_leI (b := 24) (by omega) (by decide)
  have h2 : (32 : Int32) ≤ nI e ↔ 32 ≤ e := nI_leI (a := 32) (by decide) (by omega)
  simp only [f_E_statusIn, f_E_statusIn_25, f_E_statusIn_26, zs_nm, re_pkin, h1, h2, if_true]
  rcases hl with ⟨g1, g2, rfl⟩ | ⟨rfl, -, rfl⟩ | ⟨rfl, -, rfl⟩
  · by_cases h3 : e ≤ 24
    · rw [if_pos h3]
    · rw [if_neg h3, if_pos (by omega)]
  · simp only [if_neg (show ¬ 26 ≤ 24 by decide), if_neg (show ¬ 32 ≤ 26 by decide), if_neg (show ¬ (1 : Int32) = 0 by decide), re_pkl2]
  · simp only [if_neg (show ¬ 28 ≤ 24 by decide), if_neg (show ¬ 32 ≤ 28 by decide), if_neg (show ¬ (1 : Int32) = 0 by decide), re_pkl4]
def re_E (N : Nat) (c m : ZS) (e f : Nat) : Prop := re_P c m ∧ re_F c m ∧ re_D N c m ∧ re_X c m ∧ c 0 18 = 0 ∧ e < 48 ∧ 2 ≤ e ∧ f < 65536 ∧ m 0 18 = nI f ∧ (e < 4 → m 0 16 = c 0 11 ∧ m 0 17 = c 0 12 ∧ (c 0 12 = 0 ∨ c 0 12 = 1))
theorem re_enter {N : Nat} {c m : ZS} {e f at' : Nat} (h : re_E N c m e f) (hat : at' < 2 ^ 32) {l3 : Int32} (hl : ∀ k, ∃ k', re_L e l3 k k') : ∃ (c' m' : ZS), f_E_enter c (nI e) (nI at') (nI f) = some c' ∧ (∀ n, f_M_exception_9 (n + 1) m l3 (nI e) (nI at') 1 = re_G (f_M_exception_9 n) m' l3 (nI e)) ∧ re_M N c' m' ∧ (∀ k, 18 ≤ k → c' 0 k = c 0 k) ∧ m' 0 0 = m 0 0 ∧ m' 0 11 = m 0 11 ∧ m' 0 18 = m 0 18 ∧ m' 0 19 = m 0 19 ∧ m' 0 20 = nI e ∧ c' 0 16 = nI e := by
  obtain ⟨hP, hF, hD, hX, h18, he, he2, hf, hf18, hac⟩ := h
  obtain ⟨t, a, k, x, n, z, v, cc, r0, r1, r2, r3, r4, r5, r6, r7, r8⟩ := id hF
  obtain ⟨k', hk'⟩ := hl k
  have h9 : (9 : Int32) ≤ nI e ↔ 9 ≤ e := nI_leI (a := 9) (by decide) (by omega)
  let cA : ZS := zs_up (zs_up (zs_up c 0 10 0) 0 16 (nI e)) 0 17 (c 0 17 + 1)
  let mA : ZS := zs_up (zs_up (zs_up (zs_up m 0 13 (nI e)) 0 14 (m 0 14 + 1)) 0 20 (nI e)) 0 15 0
  have hPA : re_P cA mA := hP
  have hFA : re_F cA mA := ⟨t, a, k, x, n, z, v, cc, r0, r1, r2, r3, r4, r5, r6, r7, r8⟩
  have hDA : re_D N cA mA := hD
  have hXA : re_X cA mA := ⟨rfl, (by show m 0 14 + 1 = c 0 17 + 1; rw [hX.2.1]), hX.2.2.1, hX.2.2.2.1, hX.2.2.2.2.1, hX.2.2.2.2.2⟩
  obtain ⟨c1, m1, f1, f2, hP1, e15, kC, kM, k4, kR⟩ := re_above (c := cA) (m := mA) hPA (show cA 0 15 = _ from r0) (show mA 0 4 = b2 a from r2) false k' x n z v cc
  have hM1 : re_M N c1 (zs_up (zs_up m1 0 3 0) 0 5 (nI k'.val)) := by
    refine ⟨hP1, ⟨false, true, k', x, n, z, v, cc, e15, rfl, k4, rfl, (kM 6 (by decide) (by decide)).trans r4, (kM 7 (by decide) (by decide)).trans r5, (kM 8 (by decide) (by decide)).trans r6, (kM 9 (by decide) (by decide)).trans r7, (kM 10 (by decide) (by decide)).trans r8⟩, ?_, ?_, ?_, Or.inl ?_⟩
    · exact hDA.keep (fun k hk => kC.1 k (by omega) (by omega)) (fun k hk => by rw [← kM k (by omega) (by omega)]; simp [zs_up, show k ≠ 3 by omega, show k ≠ 5 by omega]) kC.2.2.2 kR
    · exact hXA.keep (fun k h1 h2 => kC.1 k (by omega) (by omega)) (fun k h1 h2 => by rw [← kM k (by omega) (by omega)]; simp [zs_up, show k ≠ 3 by omega, show k ≠ 5 by omega])
    · show m1 0 15 = c1 0 10
      rw [kM 15 (by decide) (by decide), kC.1 10 (by decide) (by decide)]; rfl
    · rw [kC.1 10 (by decide) (by decide)]; rfl
  have h10 : c1 0 10 = 0 := by rw [kC.1 10 (by decide) (by decide)]; rfl
  have K1c : ∀ k, 18 ≤ k → c1 0 k = c 0 k := fun k hk => by
    rw [kC.1 k (by omega) (by omega)]; simp [cA, zs_up, show k ≠ 10 by omega, show k ≠ 16 by omega, show k ≠ 17 by omega]
  have K1m : ∀ k, k ≠ 1 → k ≠ 4 → k ≠ 3 → k ≠ 5 → (zs_up (zs_up m1 0 3 0) 0 5 (nI k'.val)) 0 k = mA 0 k := fun k h1 h2 h3 h4 => by
    rw [← kM k h1 h2]; simp [zs_up, h3, h4]
  obtain ⟨⟨u, hu⟩, eu⟩ := re_pkn t a k x n z v cc
  have eu : re_pk t a k x n z v cc = nI u := eu
  obtain ⟨c2, m2, g1, g2, hM2, hK2, -, -, -⟩ := re_push hM1 h10 (s := 2) (x := at') (w := at') (by decide) hat (by omega) rfl
  obtain ⟨c3, m3, g3, g4, hM3, hK3, -⟩ := re_pushG hM2 (s := 1) (x := u) (w := u) (by decide) (by omega) (by omega) rfl
  have hrd : ∃ (c' m' : ZS), (∀ (ad : Int32) (rd : Int32), ad = c 0 11 → rd = (if c 0 12 = 0 then 0 else 1) → (f_E_isOfAccess c3 (nI e)).bind (fun p9 => if p9.1 = 0 then f_E_enter_116 p9.2 (nI e) else (f_Q_push p9.2 1 (nI f)).bind fun s12 => (f_Q_push s12 2 ad).bind fun s13 => (f_Q_push s13 1 rd).bind fun s14 => f_E_enter_116 s14 (nI e)) = some c') ∧ (∀ K, f_M_exception_120 K m3 l3 (nI e) (m 0 16) (m 0 17) = re_G K m' l3 (nI e)) ∧ re_M N c' m' ∧ re_K c3 m3 c' m' := by
    by_cases h4 : 4 ≤ e
    · obtain ⟨c4, m4, j1, j2, j3, j4⟩ := re_vec hM3 he
      refine ⟨c4, m4, fun ad rd _ _ => ?_, fun K => ?_, j3, j4⟩
      · simp only [re_acc0 h4 he, Option.bind_some, if_true]; exact j1
      · simp only [f_M_exception_120, f_M_exception_143, f_M_exception_168, if_pos ((re_lit4 he).mpr h4)]; exact j2 K l3
    · have hn4 : ¬ (4 : Int32) ≤ nI e := fun hh => h4 ((re_lit4 he).mp hh)
      obtain ⟨ha1, ha2, ha3⟩ := hac (by omega)
      obtain ⟨ad0, had, ead⟩ := re_of32 (c 0 11)
      obtain ⟨rd0, hrd0, erd, erd2⟩ : ∃ r : Nat, r < 2 ∧ c 0 12 = nI r ∧ (if c 0 12 = 0 then (0 : Int32) else 1) = nI r := by
        rcases ha3 with q | q
        · exact ⟨0, by decide, q, by rw [if_pos q]; rfl⟩
        · exact ⟨1, by decide, q, by rw [if_neg (by rw [q]; decide)]; rfl⟩
      obtain ⟨c4, m4, j1, j2, hM4, hK4, -⟩ := re_pushG hM3 (s := 1) (x := f) (w := f) (by decide) (by omega) (by omega) rfl
      obtain ⟨c5, m5, j3, j4, hM5, hK5, -⟩ := re_pushG hM4 (s := 2) (x := ad0) (w := ad0) (by decide) had (by omega) rfl
      obtain ⟨c6, m6, j5, j6, hM6, hK6, -⟩ := re_pushG hM5 (s := 1) (x := rd0) (w := rd0) (by decide) (by omega) (by omega) rfl
      obtain ⟨c7, m7, j7, j8, hM7, hK7⟩ := re_vec hM6 he
      have m318 : m3 0 18 = nI f := by
        rw [hK3.2.2.2 18 (by decide) (by decide), hK2.2.2.2 18 (by decide) (by decide), K1m 18 (by decide) (by decide) (by decide) (by decide)]
        exact hf18
      refine ⟨c7, m7, fun ad rd e1 e2 => ?_, fun K => ?_, hM7, hK4.trans (hK5.trans (hK6.trans hK7))⟩
      · have j1' : f_Q_push c3 1 (nI f) = some c4 := j1
        have j3' : f_Q_push c4 2 (nI ad0) = some c5 := j3
        have j5' : f_Q_push c5 1 (nI rd0) = some c6 := j5
        rw [e1, e2, ead, erd2]
        simp only [re_acc1 (show e = 2 ∨ e = 3 by omega), Option.bind_some, if_neg (show ¬ (1 : Int32) = 0 by decide), j1', j3', j5']
        exact j7
      · have q1 : (m3 0 18).toInt64 = lN f := by rw [m318, nI_l (by omega)]
        have q2 : (m 0 16).toInt64 &&& 4294967295 = lN ad0 := by rw [ha1, ead, re_u had]
        have q3 : (m 0 17).toInt64 = lN rd0 := by rw [ha2, erd, nI_l (by omega)]
        have s1 : ∀ K, f_M_exception_120 K m3 l3 (nI e) (m 0 16) (m 0 17) = f_M_exception_143 K m4 l3 (nI e) (m 0 16) (m 0 17) := fun K => by
          simp only [f_M_exception_120, if_neg hn4, q1]
          exact j2 (fun s => f_M_exception_143 K s l3 (nI e) (m 0 16) (m 0 17))
        have s2 : ∀ K, f_M_exception_143 K m4 l3 (nI e) (m 0 16) (m 0 17) = f_M_exception_168 K m5 l3 (nI e) (m 0 17) := fun K => by
          simp only [f_M_exception_143, if_neg hn4, q2]
          exact j4 (fun s => f_M_exception_168 K s l3 (nI e) (m 0 17))
        have s3 : ∀ K, f_M_exception_168 K m5 l3 (nI e) (m 0 17) = f_M_exception_189 K m6 l3 (nI e) := fun K => by
          simp only [f_M_exception_168, if_neg hn4, q3]
          exact j6 (fun s => f_M_exception_189 K s l3 (nI e))
        rw [s1, s2, s3]
        exact j8 K l3
  obtain ⟨c', m', w1, w2, hM', hK'⟩ := hrd
  refine ⟨c', m', ?_, fun n => ?_, hM', fun k hk => ?_, ?_, ?_, ?_, ?_, ?_, ?_⟩
  · have g1' : f_Q_push c1 2 (nI at') = some c2 := g1
    have g3' : f_Q_push c2 1 (nI u) = some c3 := g3
    have st : f_E_statusIn cA (nI e) (nI u) = some (re_pk false true k' x n z v cc, cA) := by rw [← eu]; exact re_stIn he hk' t a x n z v cc
    have nt : f_E_note (zs_up c 0 10 0) (nI e) = some cA := rfl
    have c15 : c 0 15 = nI u := by rw [r0, eu]
    simp only [f_E_enter, zs_nm]
    by_cases g12 : c 0 12 = 0
    · rw [if_pos g12]
      simp only [f_E_enter_24, zs_nm, c15, nt, Option.bind_some, st, f1, g1', g3']
      exact w1 _ _ rfl (by rw [if_pos g12])
    · rw [if_neg g12]
      simp only [f_E_enter_24, zs_nm, c15, nt, Option.bind_some, st, f1, g1', g3']
      exact w1 _ _ rfl (by rw [if_neg g12])
  · have pk : f_M_packed mA = some (nI u, mA) := by rw [re_packed hFA]; show some (c 0 15, mA) = _; rw [r0, eu]
    have g2' : f_M_push (zs_up (zs_up m1 0 3 0) 0 5 (nI k'.val)) 2 (lN at') = some m2 := g2
    have hx90 : ∀ K, f_M_exception_90 K (zs_up m1 0 3 0) l3 (nI e) (nI at') (m 0 16) (m 0 17) (nI u) (nI k'.val) = re_G K m' l3 (nI e) := fun K => by
      simp only [f_M_exception_90, zs_nm, re_u hat, g2', Option.bind_some, nI_l (show u < 2 ^ 31 by omega)]
      exact (g4 (fun s => f_M_exception_120 K s l3 (nI e) (m 0 16) (m 0 17))).trans (w2 K)
    have hm5 : (zs_up m1 0 3 0) 0 5 = nI k.val := (kM 5 (by decide) (by decide)).trans r3
    rw [f_M_exception_9, if_neg (show ¬ (1 : Int32) = 0 by decide)]
    simp only [zs_nm]
    have pk' : f_M_packed (zs_up (zs_up (zs_up (zs_up m 0 13 (nI e)) 0 14 ((zs_up m 0 13 (nI e)) 0 14 + 1)) 0 20 (nI e)) 0 15 0) = some (nI u, mA) := pk
    rw [pk']
    simp only [Option.bind_some, f2]
    rcases hk' with ⟨q1, q2, rfl⟩ | ⟨rfl, rfl, rfl⟩ | ⟨rfl, rfl, rfl⟩
    · have h82 : f_M_exception_82 (f_M_exception_9 n) (zs_up m1 0 3 0) l3 (nI e) (nI at') (m 0 16) (m 0 17) (nI u) = re_G (f_M_exception_9 n) m' l3 (nI e) := by
        simp only [f_M_exception_82, hm5]
        exact hx90 _
      by_cases q3 : l3 = -1
      · rw [if_pos q3]; exact h82
      · rw [if_neg q3, if_neg (show ¬ (9 : Int32) ≤ nI e by rw [h9]; have := q2.resolve_left q3; omega)]; exact h82
    · rw [if_neg (show ¬ (2 : Int32) = -1 by decide), if_pos (show (9 : Int32) ≤ nI 26 by decide)]
      exact hx90 _
    · rw [if_neg (show ¬ (4 : Int32) = -1 by decide), if_pos (show (9 : Int32) ≤ nI 28 by decide)]
      exact hx90 _
  · rw [hK'.1 k (by omega), hK3.1 k (by omega), hK2.1 k (by omega), K1c k hk]
  · rw [hK'.2.1, hK3.2.1, hK2.2.1, K1m 0 (by decide) (by decide) (by decide) (by decide)]; rfl
  · rw [hK'.2.2.1, hK3.2.2.1, hK2.2.2.1, K1m 11 (by decide) (by decide) (by decide) (by decide)]; rfl
  · rw [hK'.2.2.2 18 (by decide) (by decide), hK3.2.2.2 18 (by decide) (by decide), hK2.2.2.2 18 (by decide) (by decide), K1m 18 (by decide) (by decide) (by decide) (by decide)]; rfl
  · rw [hK'.2.2.2 19 (by decide) (by decide), hK3.2.2.2 19 (by decide) (by decide), hK2.2.2.2 19 (by decide) (by decide), K1m 19 (by decide) (by decide) (by decide) (by decide)]; rfl
  · rw [hK'.2.2.2 20 (by decide) (by decide), hK3.2.2.2 20 (by decide) (by decide), hK2.2.2.2 20 (by decide) (by decide), K1m 20 (by decide) (by decide) (by decide) (by decide)]; rfl
  · rw [hK'.1 16 (by decide), hK3.1 16 (by decide), hK2.1 16 (by decide), kC.1 16 (by decide) (by decide)]; rfl
