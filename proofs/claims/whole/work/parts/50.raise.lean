/-! The whole of raise. -/
theorem re_ex0 (n : Nat) (m : ZS) (l3 a b : Int32) : f_M_exception_9 (n + 1) m l3 a b 0 = some (zs_up m 0 15 0) := by
  rw [f_M_exception_9, if_pos (Eq.refl (0 : Int32))]
  simp only [zs_nm]
theorem re_doneK (K : ZS → Int32 → Int32 → Int32 → Int32 → Option ZS) {m : ZS} {l3 l4 : Int32} (h : m 0 15 = 0) : re_G K m l3 l4 = K m l3 (m 0 15) (m 0 2) 0 := by
  simp only [re_G, if_pos h, f_M_exception_238, f_M_exception_239, f_M_exception_277, zs_nm]
theorem re_done {m : ZS} {l3 l4 : Int32} {n : Nat} (h : m 0 15 = 0) : re_G (f_M_exception_9 (n + 1)) m l3 l4 = some (zs_up m 0 15 0) := by
  rw [re_doneK _ h, re_ex0]
def re_hm (m : ZS) : ZS := zs_up (zs_up (zs_up m 0 13 (m 0 15)) 0 14 (m 0 14 + 1)) 0 11 2
theorem re_haltK (K : ZS → Int32 → Int32 → Int32 → Int32 → Option ZS) {m : ZS} {l3 : Int32} {e : Nat} (h : ¬ m 0 15 = 0) (he : e < 4) : re_G K m l3 (nI e) = K (re_hm m) l3 (m 0 15) (m 0 2) 0 := by
  have h3 : nI e ≤ 3 := nI_le (show e ≤ 3 by omega) (by decide)
  have h4 : ¬ (4 : Int32) ≤ nI e := nI_ge (show e < 4 by omega) (by decide)
  simp only [re_G, if_neg h, if_pos h3, f_M_exception_238, f_M_exception_239, if_neg h4, f_M_exception_277, zs_nm]
  rfl
theorem re_halt {m : ZS} {l3 : Int32} {e n : Nat} (h : ¬ m 0 15 = 0) (he : e < 4) : re_G (f_M_exception_9 (n + 1)) m l3 (nI e) = some (zs_up (zs_up (zs_up (zs_up m 0 13 (m 0 15)) 0 14 (m 0 14 + 1)) 0 11 2) 0 15 0) := by
  rw [re_haltK _ h he, re_ex0]
  rfl
theorem re_more {m : ZS} {l3 : Int32} {e n : Nat} (h : ¬ m 0 15 = 0) (h4' : 4 ≤ e) (he : e < 48) : re_G (f_M_exception_9 n) m l3 (nI e) = f_M_exception_9 n m l3 (m 0 15) (m 0 2) 1 := by
  have h3 : ¬ nI e ≤ 3 := nI_ge (show 3 < e by omega) (by omega)
  have h4 : (4 : Int32) ≤ nI e := nI_le (show 4 ≤ e by omega) (by omega)
  simp only [re_G, if_neg h, if_neg h3, f_M_exception_239, if_pos h4, f_M_exception_277, zs_nm]
theorem re_haltB {N : Nat} {c m : ZS} (h : re_M N c m) : re_B N (zs_up (zs_up (zs_up c 0 16 (c 0 10)) 0 17 (c 0 17 + 1)) 0 18 1) (zs_up (zs_up (zs_up (zs_up m 0 13 (m 0 15)) 0 14 (m 0 14 + 1)) 0 11 2) 0 15 0) := by
  obtain ⟨hP, hF, hD, hX, hT⟩ := h
  refine ⟨hP, hF, hD, ⟨hT.1, ?_, hX.2.2.1, Or.inr rfl, hX.2.2.2.2.1, rfl⟩, rfl⟩
  show m 0 14 + 1 = c 0 17 + 1; rw [hX.2.1]
theorem re_raise {N : Nat} {c m : ZS} {e f at' : Nat} (h : re_E N c m e f) (hat : at' < 2 ^ 32) {l3 : Int32} (hl : ∀ k, ∃ k', re_L e l3 k k') : ∃ (c' m' : ZS), f_E_raise c (nI e) (nI at') (nI f) = some c' ∧ f_M_exception m (nI e) (nI at') l3 = some m' ∧ re_B N c' m' ∧ (∀ k, 20 ≤ k → c' 0 k = c 0 k) ∧ m' 0 0 = m 0 0 ∧ m' 0 18 = m 0 18 ∧ (c' 0 18 = 0 → m' 0 11 = m 0 11 ∧ ∃ e', 2 ≤ e' ∧ e' < 48 ∧ c' 0 16 = nI e' ∧ m' 0 20 = nI e') ∧ (¬ c' 0 18 = 0 → c' 0 16 = 2 ∨ c' 0 16 = 3) := by
  obtain ⟨c1, m1, a1, a2, hM1, a4, a5, a6, a7, a8, a9, a10⟩ := re_enter h hat hl
  obtain ⟨hP, hF, hD, hX, h18, he, he2, hf, hf18, hac⟩ := h
  have ex : f_M_exception m (nI e) (nI at') l3 = re_G (f_M_exception_9 19) m1 l3 (nI e) := a2 19
  rw [ex]
  by_cases g : c1 0 10 = 0
  · have g' : m1 0 15 = 0 := by rw [hM1.2.2.2.2.1, g]
    refine ⟨c1, zs_up m1 0 15 0, ?_, re_done g', ⟨hM1.1, hM1.2.1, hM1.2.2.1, hM1.2.2.2.1, rfl⟩, fun k hk => a4 k (by omega), a5, a7, fun _ => ⟨a6, e, he2, he, a10, a9⟩, fun hh => absurd ((a4 18 (by decide)).trans h18) hh⟩
    simp only [f_E_raise, a1, Option.bind_some, if_pos g, f_E_raise_43]
  · have g' : ¬ m1 0 15 = 0 := by rw [hM1.2.2.2.2.1]; exact g
    obtain ⟨t1, t2⟩ := hM1.2.2.2.2
    have t3 := t2.resolve_left g
    by_cases h4 : 4 ≤ e
    · obtain ⟨e1, he1, ee1⟩ : ∃ e1 : Nat, (e1 = 2 ∨ e1 = 3) ∧ c1 0 10 = nI e1 := by
        rcases t3.1 with q | q
        · exact ⟨2, Or.inl rfl, q⟩
        · exact ⟨3, Or.inr rfl, q⟩
      have g3 : ¬ nI e1 = 0 := by rw [← ee1]; exact g
      obtain ⟨at1, hat1, eat1⟩ := re_of32 (c1 0 14)
      have hE1 : re_E N c1 m1 e1 f := ⟨hM1.1, hM1.2.1, hM1.2.2.1, hM1.2.2.2.1, (a4 18 (by decide)).trans h18, by omega, by omega, hf, a7.trans hf18, fun _ => t3.2⟩
      obtain ⟨c2, m2, b1, b2', hM2, b4, b5, b6, b7, b8, b9, b10⟩ := re_enter hE1 hat1 (l3 := l3) (fun k => ⟨k, Or.inl ⟨by omega, Or.inr (by omega), rfl⟩⟩)
      have ex2 : re_G (f_M_exception_9 19) m1 l3 (nI e) = re_G (f_M_exception_9 18) m2 l3 (nI e1) := by
        rw [re_more g' h4 he, t1, ee1, hM1.1.2.2.2.2, eat1]
        exact b2' 18
      rw [ex2]
      by_cases g2 : c2 0 10 = 0
      · have g2' : m2 0 15 = 0 := by rw [hM2.2.2.2.2.1, g2]
        refine ⟨c2, zs_up m2 0 15 0, ?_, re_done g2', ⟨hM2.1, hM2.2.1, hM2.2.2.1, hM2.2.2.2.1, rfl⟩, fun k hk => (b4 k (by omega)).trans (a4 k (by omega)), b5.trans a5, b7.trans a7, fun _ => ⟨b6.trans a6, e1, by omega, by omega, b10, b9⟩, fun hh => absurd (((b4 18 (by decide)).trans (a4 18 (by decide))).trans h18) hh⟩
        simp only [f_E_raise, a1, Option.bind_some, if_neg g3, re_acc0 h4 he, if_true, ee1, eat1, b1, f_E_raise_43, if_pos g2]
      · have g2' : ¬ m2 0 15 = 0 := by rw [hM2.2.2.2.2.1]; exact g2
        refine ⟨zs_up (zs_up (zs_up c2 0 16 (c2 0 10)) 0 17 (c2 0 17 + 1)) 0 18 1, _, ?_, re_halt g2' (by omega), re_haltB hM2, fun k hk => ?_, b5.trans a5, b7.trans a7, fun hh => absurd hh (show ¬ (1 : Int32) = 0 by decide), fun _ => (hM2.2.2.2.2.2.resolve_left g2).1⟩
        · simp only [f_E_raise, a1, Option.bind_some, if_neg g3, re_acc0 h4 he, if_true, ee1, eat1, b1, f_E_raise_43, if_neg g2, f_E_note, zs_nm]
          rfl
        · rw [← a4 k (by omega), ← b4 k (by omega)]
          simp [zs_up, show k ≠ 16 by omega, show k ≠ 17 by omega, show k ≠ 18 by omega]
    · refine ⟨zs_up (zs_up (zs_up c1 0 16 (c1 0 10)) 0 17 (c1 0 17 + 1)) 0 18 1, _, ?_, re_halt g' (by omega), re_haltB hM1, fun k hk => ?_, a5, a7, fun hh => absurd hh (show ¬ (1 : Int32) = 0 by decide), fun _ => t3.1⟩
      · simp only [f_E_raise, a1, Option.bind_some, if_neg g, re_acc1 (show e = 2 ∨ e = 3 by omega), if_neg (show ¬ (1 : Int32) = 0 by decide), f_E_raise_43, f_E_note, zs_nm]
        rfl
      · rw [← a4 k (by omega)]
        simp [zs_up, show k ≠ 16 by omega, show k ≠ 17 by omega, show k ≠ 18 by omega]
