/-! The end of an instruction: exceptions and trace. -/
set_option maxRecDepth 100000 in
theorem re_L1 {e : Nat} (h : ¬ (24 < e ∧ e < 32)) : ∀ k : Fin 8, ∃ k', re_L e (-1) k k' := fun k => ⟨k, Or.inl ⟨h, Or.inl rfl, rfl⟩⟩
set_option maxRecDepth 100000 in
theorem re_raise9 {N f : Nat} {c m : ZS} (h : re_B N c m) (h18 : c 0 18 = 0) (hf : f < 65536) (e23 : c 0 23 = nI f) (m18 : m 0 18 = nI f) : ∃ c' m', f_E_raise c 9 (c 0 14) (c 0 23) = some c' ∧ f_M_exception m 9 (m 0 2) (-1) = some m' ∧ re_B N c' m' ∧ m' 0 0 = m 0 0 := by
  obtain ⟨a, ha, ea⟩ := re_of32 (c 0 14)
  have hE : re_E N c m 9 f := ⟨h.1, h.2.1, h.2.2.1, h.2.2.2.1, h18, by decide, by decide, hf, m18, fun hh => absurd hh (by decide)⟩
  obtain ⟨c', m', k1, k2, k3, -, k4, -, -, -⟩ := re_raise hE ha (re_L1 (by decide))
  refine ⟨c', m', ?_, ?_, k3, k4⟩
  · rw [ea, e23]; exact k1
  · rw [h.1.2.2.2.2, ea]; exact k2
set_option maxRecDepth 100000 in
theorem re_tail {N f : Nat} {c m : ZS} (h : re_B N c m) (hf : f < 65536) (e23 : c 0 23 = nI f) (m18 : m 0 18 = nI f) (hA : c 0 18 = 0 → m 0 11 = 0 ∧ ∃ e', 2 ≤ e' ∧ e' < 48 ∧ c 0 16 = nI e' ∧ m 0 20 = nI e') (hB : ¬ c 0 18 = 0 → c 0 16 = 2 ∨ c 0 16 = 3) (t : Bool) : ∃ c' m', ((f_E_latestForbidsTrace c).bind fun p3 => if p3.1 = 0 then f_P_finish_115 p3.2 (b2 t) 1 else f_P_finish_115 p3.2 (b2 t) 0) = some c' ∧ f_M_instruction_215 m (b2 t) = some m' ∧ re_B N c' m' ∧ m' 0 0 = m 0 0 := by
  have none' : f_P_finish_115 c (b2 t) 0 = some c := by
    simp only [f_P_finish_115, f_P_finish_116]
    cases t <;> rfl
  by_cases g : c 0 18 = 0
  · obtain ⟨h11, e', h2, h48, c16, m20⟩ := hA g
    have tk : ∀ k : Nat, k < 64 → (nI e' = nI k ↔ e' = k) := fun k hk => re_inj (by omega) (by omega)
    have t2 : nI e' = 2 ↔ e' = 2 := tk 2 (by decide)
    have t3 : nI e' = 3 ↔ e' = 3 := tk 3 (by decide)
    have t4 : nI e' = 4 ↔ e' = 4 := tk 4 (by decide)
    have t8 : nI e' = 8 ↔ e' = 8 := tk 8 (by decide)
    have l2 : nI e' < 2 ↔ e' < 2 := nI_ltI (b := 2) (by omega) (by decide)
    have l4 : nI e' ≤ 4 ↔ e' ≤ 4 := nI_leI (b := 4) (by omega) (by decide)
    simp only [f_E_latestForbidsTrace, f_E_latestForbidsTrace_27, f_E_isOfAccess, f_E_isOfAccess_10, c16, t2, t3, f_M_instruction_215, f_M_instruction_252, h11, m20, l2, l4, t8, if_neg (show ¬ e' < 2 by omega), if_true]
    by_cases hfb : e' = 2 ∨ e' = 3 ∨ e' = 4 ∨ e' = 8
    · have hr : (if e' ≤ 4 then some m else if e' = 8 then some m else (f_M_exception m 9 (m 0 2) (-1)).bind fun s13 => some s13) = some m := by
        by_cases y : e' ≤ 4
        · rw [if_pos y]
        · rw [if_neg y, if_pos (by omega)]
      have hr' : (if b2 t = 1 then (if e' ≤ 4 then some m else if e' = 8 then some m else (f_M_exception m 9 (m 0 2) (-1)).bind fun s13 => some s13) else some m) = some m := by
        rw [hr]; split <;> rfl
      refine ⟨c, m, ?_, hr', h, rfl⟩
      rcases hfb with y | y | y | y
      · simp only [if_pos y, Option.bind_some, if_neg (show ¬ (1 : Int32) = 0 by decide), none']
      · simp only [if_neg (show ¬ e' = 2 by omega), if_pos y, Option.bind_some, if_neg (show ¬ (1 : Int32) = 0 by decide), none']
      · simp only [if_neg (show ¬ e' = 2 by omega), if_neg (show ¬ e' = 3 by omega), Option.bind_some, if_true, c16, t4, if_pos y, if_neg (show ¬ (1 : Int32) = 0 by decide), none']
      · simp only [if_neg (show ¬ e' = 2 by omega), if_neg (show ¬ e' = 3 by omega), Option.bind_some, if_true, c16, t4, t8, if_neg (show ¬ e' = 4 by omega), if_pos y, if_neg (show ¬ (1 : Int32) = 0 by decide), none']
    · simp only [if_neg (show ¬ e' = 2 by omega), if_neg (show ¬ e' = 3 by omega), Option.bind_some, if_true, c16, t4, t8, if_neg (show ¬ e' = 4 by omega), if_neg (show ¬ e' = 8 by omega), if_neg (show ¬ e' ≤ 4 by omega), f_P_finish_115, f_P_finish_116]
      cases t
      · exact ⟨c, m, rfl, rfl, h, rfl⟩
      · obtain ⟨c', m', k1, k2, k3, k4⟩ := re_raise9 h g hf e23 m18
        simp only [if_neg (show ¬ b2 true = 0 by decide), if_pos (show b2 true = 1 by decide), if_neg (show ¬ (1 : Int32) = 0 by decide), k1, k2, Option.bind_some]
        exact ⟨c', m', rfl, rfl, k3, k4⟩
  · have hX := h.2.2.2.1
    have h11 : m 0 11 = 2 := by rw [hX.2.2.2.2.2, if_neg g]
    refine ⟨c, m, ?_, ?_, h, rfl⟩
    · rcases hB g with y | y
      · simp only [f_E_latestForbidsTrace, f_E_latestForbidsTrace_27, f_E_isOfAccess, f_E_isOfAccess_10, y, if_true, Option.bind_some, if_neg (show ¬ (1 : Int32) = 0 by decide), none']
      · simp only [f_E_latestForbidsTrace, f_E_latestForbidsTrace_27, f_E_isOfAccess, f_E_isOfAccess_10, y, if_true, Option.bind_some, if_neg (show ¬ (1 : Int32) = 0 by decide), if_neg (show ¬ (3 : Int32) = 2 by decide), none']
    · simp only [f_M_instruction_215, h11, if_neg (show ¬ (2 : Int32) = 0 by decide)]
      split <;> rfl
set_option maxRecDepth 100000 in
/-- an exception of the instruction, then perhaps a trace -/
theorem re_exc {N f e : Nat} {c m : ZS} (hE : re_E N c m e f) (h20 : c 0 20 = 0) (e23 : c 0 23 = nI f) (he : ¬ (24 < e ∧ e < 32)) (A : Int32) (t : Bool) : ∃ c' m', f_P_finish_90 c (b2 t) A (nI e) = some c' ∧ ((f_M_exception m (nI e) A (-1)).bind fun s => f_M_instruction_215 s (b2 t)) = some m' ∧ re_B N c' m' ∧ m' 0 0 = m 0 0 := by
  obtain ⟨a, ha, rfl⟩ := re_of32 A
  obtain ⟨c1, m1, k1, k2, k3, k4, k5, k6, k7, k8⟩ := re_raise hE ha (re_L1 he)
  have hf := hE.2.2.2.2.2.2.2.1
  have m18 := hE.2.2.2.2.2.2.2.2.1
  have m11 : m 0 11 = 0 := by
    have hX := hE.2.2.2.1
    rw [hX.2.2.2.2.2, if_pos hE.2.2.2.2.1, if_pos h20]
  obtain ⟨c', m', j1, j2, j3, j4⟩ := re_tail k3 hf ((k4 23 (by decide)).trans e23) (k6.trans m18) (fun hh => ⟨((k7 hh).1).trans m11, (k7 hh).2⟩) k8 t
  refine ⟨c', m', ?_, ?_, j3, j4.trans k5⟩
  · simp only [f_P_finish_90, e23, k1, Option.bind_some]; exact j1
  · rw [k2]; exact j2
set_option maxRecDepth 100000 in
theorem re_ME {N f e : Nat} {th : Int32} {c m : ZS} (hO : re_O N f th c m) (hf : f < 65536) (he : 2 ≤ e) (he2 : e < 48) (h4 : e < 4 → ¬ c 0 10 = 0) : re_E N c m e f := by
  obtain ⟨⟨hP, hF, hD, hX, hT⟩, h2, h3, h4', h5, h6, h7⟩ := hO
  refine ⟨hP, hF, hD, hX, h2.1, he2, he, hf, h4', fun hh => ?_⟩
  rcases hT.2 with y | ⟨-, y1, y2, y3⟩
  · exact absurd y (h4 hh)
  · exact ⟨y1, y2, y3⟩
set_option maxRecDepth 100000 in
theorem re_MB {N : Nat} {c m : ZS} (h : re_M N c m) (h0 : c 0 10 = 0) : re_B N c m := ⟨h.1, h.2.1, h.2.2.1, h.2.2.2.1, by rw [h.2.2.2.2.1, h0]⟩
set_option maxRecDepth 100000 in
/-- the end of an instruction that got as far as its operation -/
theorem re_fin {N f : Nat} {th : Int32} {c m : ZS} (hO : re_O N f th c m) (hf : f < 65536) (t : Bool) : ∃ c' m', f_P_finish c (b2 t) = some c' ∧ f_M_instruction_172 m (b2 t) = some m' ∧ re_B N c' m' ∧ m' 0 0 = th := by
  obtain ⟨⟨hP, hF, hD, hX, hT⟩, h2, h3, h4, h5, h6, h7⟩ := id hO
  have e14 : m 0 2 = c 0 14 := hP.2.2.2.2
  have b3 : ∀ F : Option ZS, (F.bind fun s14 => f_M_instruction_215 s14 (b2 t)) = F.bind fun s => f_M_instruction_215 s (b2 t) := fun F => rfl
  by_cases g : c 0 10 = 0
  · have g' : m 0 15 = 0 := by rw [hT.1, g]
    simp only [f_P_finish, if_pos g, f_P_finish_21, if_pos h2.2, f_P_finish_33, f_M_instruction_172, if_pos g']
    rcases h7 with ⟨x1, x2⟩ | ⟨e, x1, x2, x3⟩
    · simp only [if_pos x1, if_pos x2, f_P_finish_116, f_M_instruction_215, f_M_instruction_252]
      have h11 : m 0 11 = 0 := by rw [hX.2.2.2.2.2, if_pos h2.1, if_pos h2.2]
      cases t
      · exact ⟨c, m, rfl, rfl, re_MB hO.1 g, h6⟩
      · obtain ⟨c', m', k1, k2, k3, k4⟩ := re_raise9 (re_MB hO.1 g) h2.1 hf h3 h4
        simp only [if_neg (show ¬ b2 true = 0 by decide), if_pos (show b2 true = 1 by decide), if_neg (show ¬ (1 : Int32) = 0 by decide), k1, k2, Option.bind_some, h11, h5, if_true, if_pos (show (0 : Int32) < 2 by decide)]
        exact ⟨c', m', rfl, rfl, k3, k4.trans h6⟩
    · have tk : ∀ k : Nat, k < 64 → (nI e = nI k ↔ e = k) := fun k hk => re_inj (by omega) (by omega)
      have t0 : nI e = 0 ↔ e = 0 := tk 0 (by decide)
      have t4 : nI e = 4 ↔ e = 4 := tk 4 (by decide)
      have t8 : nI e = 8 ↔ e = 8 := tk 8 (by decide)
      have hE := re_ME (e := e) hO hf (by omega) (by omega) (fun hh => by omega)
      obtain ⟨c', m', k1, k2, k3, k4⟩ := re_exc hE h2.2 h3 (by omega) (c 0 14) t
      simp only [x1, x2, t0, t4, t8, if_neg (show ¬ e = 0 by omega), if_neg (show ¬ e = 4 by omega), if_neg (show ¬ e = 8 by omega), f_P_finish_63, if_true, e14]
      exact ⟨c', m', k1, k2, k3, k4.trans h6⟩
  · have g' : ¬ m 0 15 = 0 := by rw [hT.1]; exact g
    have h23 : c 0 10 = 2 ∨ c 0 10 = 3 := by
      rcases hT.2 with y | ⟨y, -⟩
      · exact absurd y g
      · exact y
    obtain ⟨e, he, ee⟩ : ∃ e : Nat, (e = 2 ∨ e = 3) ∧ c 0 10 = nI e := by
      rcases h23 with y | y
      · exact ⟨2, Or.inl rfl, y⟩
      · exact ⟨3, Or.inr rfl, y⟩
    have hE := re_ME (e := e) hO hf (by omega) (by omega) (fun _ => g)
    have hE' : re_E N (zs_up c 0 22 (nI e)) m e f := hE
    obtain ⟨c', m', k1, k2, k3, k4⟩ := re_exc hE' h2.2 h3 (by omega) (c 0 14) t
    have tk : ∀ k : Nat, k < 64 → (nI e = nI k ↔ e = k) := fun k hk => re_inj (by omega) (by omega)
    have t0 : nI e = 0 ↔ e = 0 := tk 0 (by decide)
    have t4 : nI e = 4 ↔ e = 4 := tk 4 (by decide)
    have t8 : nI e = 8 ↔ e = 8 := tk 8 (by decide)
    refine ⟨c', m', ?_, ?_, k3, k4.trans h6⟩
    · simp only [f_P_finish, if_neg g, zs_nm, ee, f_P_finish_21, f_P_finish_33, re_g0, t0, t4, t8, if_neg (show ¬ e = 0 by omega), if_neg (show ¬ e = 4 by omega), if_neg (show ¬ e = 8 by omega), f_P_finish_63, if_true]
      rw [if_pos (show (zs_up c 0 22 (nI e)) 0 20 = 0 from h2.2)]
      exact k1
    · simp only [f_M_instruction_172, if_neg g']
      rw [hT.1, ee, e14]
      exact k2
set_option maxRecDepth 100000 in
theorem re_finU {N : Nat} {th : Int32} {c m : ZS} (h : re_U N th c m) (t : Bool) : ∃ c' m', f_P_finish c (b2 t) = some c' ∧ f_M_instruction_172 m (b2 t) = some m' ∧ re_B N c' m' ∧ m' 0 0 = th := by
  obtain ⟨hM, h18, h20, g, h22, m19, m0⟩ := h
  have g' : m 0 15 = 0 := by rw [hM.2.2.2.2.1, g]
  have h11 : m 0 11 = 1 := by rw [hM.2.2.2.1.2.2.2.2.2, if_pos h18, h20]; rfl
  refine ⟨c, m, ?_, ?_, re_MB hM g, m0⟩
  · simp only [f_P_finish, if_pos g, f_P_finish_21, h20, if_neg (show ¬ (1 : Int32) = 0 by decide), f_P_finish_33, if_pos h22, f_P_finish_116, if_true]
    split <;> rfl
  · simp only [f_M_instruction_172, if_pos g', if_pos m19, f_M_instruction_215, h11, if_neg (show ¬ (1 : Int32) = 0 by decide)]
    split <;> rfl
