/-! An instruction from its first word to its end. -/
set_option maxRecDepth 100000 in
theorem re_shrv {v d : Nat} (hv : v < 65536) (hd : ((nI d &&& 31).toBitVec.smod 32).toNat = d) : zo_shr (nI v) (nI d) = nI (v / 2 ^ d) := pk_shrN (by omega) _ d hd
def re_dec (c : ZS) (v : Nat) : ZS := zs_up (zs_up (zs_up (zs_up (zs_up (zs_up c 0 23 (nI v)) 0 24 (nI (v / 2048))) 0 25 (nI (v / 512 % 4))) 0 26 (nI (v / 64 % 8))) 0 27 (nI (v / 8 % 8))) 0 28 (nI (v % 8))
set_option maxRecDepth 100000 in
theorem re_decode {c : ZS} {v : Nat} (hv : v < 65536) : f_I_decode c (nI v) = some (re_dec c v) := by
  have s11 : zo_shr (nI v) 11 = nI (v / 2048) := re_shrv (d := 11) hv (by decide)
  have s9 : zo_shr (nI v) 9 = nI (v / 512) := re_shrv (d := 9) hv (by decide)
  have s6 : zo_shr (nI v) 6 = nI (v / 64) := re_shrv (d := 6) hv (by decide)
  have s3 : zo_shr (nI v) 3 = nI (v / 8) := re_shrv (d := 3) hv (by decide)
  have a5 : nI (v / 2048) &&& 31 = nI (v / 2048) := by
    rw [pk_andN (by omega) 5 (by decide), Nat.mod_eq_of_lt (show v / 2048 < 2 ^ 5 by omega)]
  have a2 : nI (v / 512) &&& 3 = nI (v / 512 % 4) := pk_andN (by omega) 2 (by decide)
  have a3 : ∀ x : Nat, x < 65536 → nI x &&& 7 = nI (x % 8) := fun x hx => pk_andN (by omega) 3 (by decide)
  simp only [f_I_decode, zs_nm, s11, s9, s6, s3, a5, a2, a3 (v / 64) (by omega), a3 (v / 8) (by omega), a3 v hv]
  rfl
set_option maxRecDepth 100000 in
theorem re_decM {N : Nat} {c m : ZS} (h : re_M N c m) (v : Nat) : re_M N (re_dec c v) m := re_Mup (re_Mup (re_Mup (re_Mup (re_Mup (re_Mup h (by decide) _) (by decide) _) (by decide) _) (by decide) _) (by decide) _) (by decide) _
/-- the system's instruction after its beginning -/
noncomputable def re_go (t : Int32) (s6 : ZS) : Option (Int32 × ZS) :=
        (f_P_goesOn s6 ).bind fun p7 =>
        if p7.1 = 0 then
          f_P_step_124 p7.2 t
        else
          (f_I_hasOperand p7.2 ).bind fun p11 =>
          if p11.1 = 0 then
            f_P_step_124 p11.2 t
          else
            (f_P_takeOperand p11.2 ).bind fun s12 =>
            f_P_step_124 s12 t
set_option maxRecDepth 100000 in
theorem re_no {c : ZS} (h : ¬ c 0 10 = 0 ∨ ¬ c 0 22 = 0) : f_P_goesOn c = some (0, c) := by
  unfold f_P_goesOn
  by_cases g : c 0 10 = 0
  · rw [if_pos g]
    rcases h with h | h
    · exact absurd g h
    · rw [if_neg h]
  · rw [if_neg g]
set_option maxRecDepth 100000 in
theorem re_yes {c : ZS} (h : c 0 10 = 0) (h2 : c 0 22 = 0) : f_P_goesOn c = some (1, c) := by
  unfold f_P_goesOn
  rw [if_pos h, if_pos h2]
set_option maxRecDepth 100000 in
theorem re_124n {c : ZS} {t : Int32} (h : ¬ c 0 10 = 0 ∨ ¬ c 0 22 = 0) : f_P_step_124 c t = (f_P_finish c t).bind fun s => some (1, s) := by
  simp only [f_P_step_124, re_no h, Option.bind_some, f_P_step_135, if_true]
set_option maxRecDepth 100000 in
theorem re_124y {c : ZS} {t : Int32} (h : c 0 10 = 0) (h2 : c 0 22 = 0) : f_P_step_124 c t = (f_P_execute c).bind fun z => (f_P_finish z t).bind fun s => some (1, s) := by
  simp only [f_P_step_124, re_yes h h2, Option.bind_some, f_P_step_135, if_neg (show ¬ (1 : Int32) = 0 by decide)]
set_option maxRecDepth 100000 in
theorem re_124 {c c' : ZS} {t : Int32} (h22 : c 0 22 = 0) (h : (if c 0 10 = 0 then f_P_execute c else some c) = some c') : f_P_step_124 c t = (f_P_finish c' t).bind fun s => some (1, s) := by
  by_cases g : c 0 10 = 0
  · rw [if_pos g] at h
    rw [re_124y g h22, h]; rfl
  · rw [if_neg g] at h
    rw [re_124n (Or.inl g)]
    cases h
    rfl
set_option maxRecDepth 100000 in
/-- operand and operation -/
theorem re_oper {N f : Nat} {th : Int32} {c m : ZS} {op s r md q : Nat} (hO : re_O N f th c m) (hf : f < 65536) (h0 : c 0 10 = 0) (h22 : c 0 22 = 0) (hop : op < 32) (hs : s < 4) (hr : r < 8) (hmd : md < 8) (hq : q < 8) (e24 : c 0 24 = nI op) (e25 : c 0 25 = nI s) (e26 : c 0 26 = nI r) (e27 : c 0 27 = nI md) (e28 : c 0 28 = nI q) (hl : re_leg op s r md q = true) (t : Bool) : ∃ c' m', re_go (b2 t) c = some (1, c') ∧ ((f_M_does m (nI op) (nI s) (nI r) (nI md) (nI q)).bind fun s16 => f_M_instruction_172 s16 (b2 t)) = some m' ∧ re_B N c' m' ∧ m' 0 0 = th := by
  have hgo : re_go (b2 t) c = if b2 (re_hop op) = 0 then f_P_step_124 c (b2 t) else (f_P_takeOperand c).bind fun s12 => f_P_step_124 s12 (b2 t) := by
    simp only [re_go, re_yes h0 h22, Option.bind_some, if_neg (show ¬ (1 : Int32) = 0 by decide), re_hasO hop e24]
  by_cases hz : op = 17 ∨ op = 21 ∨ op = 24 ∨ op = 25 ∨ op = 28
  · obtain ⟨c1, m1, k1, k2, k3⟩ := re_opZ hO h0 h22 hz hs hr hmd hq e24 e25 e26 e27 e28 hl
    have hh : re_hop op = false := by rcases hz with rfl | rfl | rfl | rfl | rfl <;> rfl
    have fin : ∃ c' m', f_P_finish c1 (b2 t) = some c' ∧ f_M_instruction_172 m1 (b2 t) = some m' ∧ re_B N c' m' ∧ m' 0 0 = th := by
      rcases k3 with k3 | k3
      · exact re_fin k3 hf t
      · exact re_finU k3 t
    obtain ⟨c', m', j1, j2, j3, j4⟩ := fin
    refine ⟨c', m', ?_, ?_, j3, j4⟩
    · rw [hgo, hh, if_pos (show b2 false = 0 from rfl), re_124y h0 h22, k1]
      simp only [Option.bind_some, j1]
    · rw [k2]; exact j2
  · have hn : ¬ (op = 21 ∨ op = 24 ∨ op = 25 ∨ op = 28) := by omega
    obtain ⟨hs3, hop30, -⟩ := re_lgf hop hs hmd hq hn (re_lgr hl (by omega))
    have hd : re_dc c op s r md q := ⟨hop, hs3, hr, hmd, hq, e24, e25, e26, e27, e28⟩
    have hh : re_hop op = true := by
      have k : ∀ o : Fin 32, o.val < 30 → ¬ (o.val = 17 ∨ o.val = 21 ∨ o.val = 24 ∨ o.val = 25 ∨ o.val = 28) → re_hop o.val = true := by decide
      exact k ⟨op, hop⟩ hop30 hz
    have key : ∃ c1 c' m', f_P_takeOperand c = some c1 ∧ c1 0 22 = c 0 22 ∧ (if c1 0 10 = 0 then f_P_execute c1 else some c1) = some c' ∧ f_M_does m (nI op) (nI s) (nI r) (nI md) (nI q) = some m' ∧ re_O N f th c' m' := by
      by_cases hrd : re_rdo op = true
      · exact re_opR hO h0 hd hl hrd
      · refine re_opN hO h0 hd hl ?_
        have k : ∀ o : Fin 32, o.val < 30 → ¬ (o.val = 17 ∨ o.val = 21 ∨ o.val = 24 ∨ o.val = 25 ∨ o.val = 28) → ¬ re_rdo o.val = true → (o.val = 1 ∨ o.val = 13 ∨ o.val = 27 ∨ o.val = 12 ∨ o.val = 22 ∨ o.val = 23) := by decide
        exact k ⟨op, hop⟩ hop30 hz hrd
    obtain ⟨c1, c2, m2, k1, k2, k3, k4, k5⟩ := key
    obtain ⟨c', m', j1, j2, j3, j4⟩ := re_fin k5 hf t
    refine ⟨c', m', ?_, ?_, j3, j4⟩
    · rw [hgo, hh, if_neg (show ¬ b2 true = 0 by decide), k1]
      simp only [Option.bind_some]
      rw [re_124 (k2.trans h22) k3, j1]; rfl
    · rw [k4]; exact j2
set_option maxRecDepth 100000 in
theorem re_instr {N : Nat} {c m : ZS} (h : re_B N c m) (h18 : c 0 18 = 0) (h20 : c 0 20 = 0) {t : Bool} (ht : m 0 3 = b2 t) : ∃ c' m', ((f_P_begin c).bind fun s6 => re_go (b2 t) s6) = some (1, c') ∧ f_M_instruction m = some m' ∧ re_B N c' m' ∧ m' 0 0 = m 0 0 := by
  obtain ⟨hP, hF, hD, hX, hT⟩ := id h
  have hM0 : re_M N (zs_up (zs_up (zs_up c 0 10 0) 0 22 0) 0 21 (c 0 14)) (zs_up (zs_up (zs_up m 0 18 0) 0 19 0) 0 20 0) := by
    refine ⟨hP, hF, hD.keep (fun k hk => ?_) (fun k hk => ?_) (fun _ => rfl) (fun _ => rfl), hX, hT, Or.inl rfl⟩
    · rw [re_g1 (by omega), re_g1 (by omega), re_g1 (by omega)]
    · rw [re_g1 (by omega), re_g1 (by omega), re_g1 (by omega)]
  obtain ⟨v, c1, m1, hv, f1, f2, hM1, hK1, -, -, -, hv0⟩ := re_fetch hM0 rfl
  have hO : re_O N v (m 0 0) (re_dec c1 v) (zs_up m1 0 18 (nI v)) := by
    refine ⟨re_MupM (re_decM hM1 v) (by decide) (by decide) _, ⟨?_, ?_⟩, rfl, rfl, ?_, ?_, Or.inl ⟨?_, ?_⟩⟩
    · exact (hK1.1 18 (by decide)).trans h18
    · exact (hK1.1 20 (by decide)).trans h20
    · exact hK1.2.2.2 20 (by decide) (by decide)
    · exact hK1.2.1
    · exact hK1.1 22 (by decide)
    · exact hK1.2.2.2 19 (by decide) (by decide)
  have e21 : re_dec c1 v 0 21 = c 0 14 := hK1.1 21 (by decide)
  have e22 : re_dec c1 v 0 22 = 0 := hK1.1 22 (by decide)
  have e10 : re_dec c1 v 0 10 = c1 0 10 := rfl
  have d24 : re_dec c1 v 0 24 = nI (v / 2048) := rfl
  have d25 : re_dec c1 v 0 25 = nI (v / 512 % 4) := rfl
  have d26 : re_dec c1 v 0 26 = nI (v / 64 % 8) := rfl
  have d27 : re_dec c1 v 0 27 = nI (v / 8 % 8) := rfl
  have d28 : re_dec c1 v 0 28 = nI (v % 8) := rfl
  have s11 : zo_shr (nI v) 11 = nI (v / 2048) := re_shrv (d := 11) hv (by decide)
  have s9 : zo_shr (nI v) 9 = nI (v / 512) := re_shrv (d := 9) hv (by decide)
  have s6 : zo_shr (nI v) 6 = nI (v / 64) := re_shrv (d := 6) hv (by decide)
  have s3 : zo_shr (nI v) 3 = nI (v / 8) := re_shrv (d := 3) hv (by decide)
  have a2 : nI (v / 512) &&& 3 = nI (v / 512 % 4) := pk_andN (by omega) 2 (by decide)
  have a3 : ∀ x : Nat, x < 65536 → nI x &&& 7 = nI (x % 8) := fun x hx => pk_andN (by omega) 3 (by decide)
  have hMi : f_M_instruction m = f_M_instruction_43 m1 (b2 t) (c 0 14) (nI v) (nI v) := by
    simp only [f_M_instruction, zs_nm, f2, Option.bind_some, ht, hP.2.2.2.2]
    by_cases g : m1 0 15 = 0
    · rw [if_pos g]
    · rw [if_neg g]
      have : v = 0 := hv0 (by rw [← hM1.2.2.2.2.1]; exact g)
      subst this; rfl
  rw [hMi]
  have hBg : f_P_begin c = (if c1 0 10 = 0 then
    (f_I_isNone (re_dec c1 v)).bind fun p6 =>
    if p6.1 = 0 then
      (f_I_needsSupervisor p6.2 ).bind fun p7 =>
      if p7.1 = 0 then
        some p7.2
      else
        (f_G_has p7.2 8192).bind fun p8 =>
        if p8.1 = 0 then
          some (zs_up p8.2 0 22 8)
        else
          some p8.2
    else
      some (zs_up p6.2 0 22 4)
  else
    some (re_dec c1 v)) := by
    have f1' : f_Q_nextWord (zs_up (zs_up (zs_up c 0 10 0) 0 22 0) 0 21 ((zs_up (zs_up c 0 10 0) 0 22 0) 0 14)) = some (nI v, c1) := f1
    simp only [f_P_begin, zs_nm, f1', Option.bind_some, re_decode hv, e10]
  rw [hBg]
  simp only [f_M_instruction_43, zs_nm, s11, s9, s6, s3, a2, a3 (v / 64) (by omega), a3 (v / 8) (by omega), a3 v hv]
  generalize hm2 : zs_up m1 0 18 (nI v) = m2 at hO ⊢
  generalize hc2 : re_dec c1 v = c2 at hO e21 e22 e10 d24 d25 d26 d27 d28 ⊢
  by_cases g : c1 0 10 = 0
  · have g2 : c2 0 10 = 0 := e10.trans g
    have g' : m2 0 15 = 0 := by rw [hO.1.2.2.2.2.1, g2]
    rw [if_pos g, if_pos g', re_isNone (r := v / 64 % 8) (show v / 2048 < 32 by omega) (show v / 512 % 4 < 4 by omega) (by omega) (show v / 8 % 8 < 8 by omega) (show v % 8 < 8 by omega) d24 d25 d26 d27 d28, re_legal (show v / 2048 < 32 by omega) (show v / 512 % 4 < 4 by omega) (by omega) (show v / 8 % 8 < 8 by omega) (show v % 8 < 8 by omega)]
    simp only [Option.bind_some]
    cases hl : re_leg (v / 2048) (v / 512 % 4) (v / 64 % 8) (v / 8 % 8) (v % 8)
    · rw [if_pos (show b2 false = 0 from rfl)]
      simp only [Bool.not_false]
      rw [if_neg (show ¬ b2 true = 0 by decide)]
      have hE0 : re_E N c2 m2 4 v := re_ME (e := 4) hO hv (by decide) (by decide) (fun hh => absurd hh (by decide))
      have hE : re_E N (zs_up c2 0 22 4) m2 4 v := hE0
      obtain ⟨c', m', k1, k2, k3, k4⟩ := re_exc hE hO.2.1.2 hO.2.2.1 (by decide) (c 0 14) t
      refine ⟨c', m', ?_, ?_, k3, k4.trans hO.2.2.2.2.2.1⟩
      · simp only [Option.bind_some, re_go]
        rw [re_no (c := zs_up c2 0 22 4) (Or.inr (show ¬ (zs_up c2 0 22 4) 0 22 = 0 by rw [re_g0]; decide))]
        simp only [Option.bind_some, if_true]
        rw [re_124n (c := zs_up c2 0 22 4) (Or.inr (show ¬ (zs_up c2 0 22 4) 0 22 = 0 by rw [re_g0]; decide))]
        have : f_P_finish (zs_up c2 0 22 4) (b2 t) = some c' := by
          simp only [f_P_finish]
          rw [if_pos (show (zs_up c2 0 22 4) 0 10 = 0 from g2)]
          simp only [f_P_finish_21]
          rw [if_pos (show (zs_up c2 0 22 4) 0 20 = 0 from hO.2.1.2)]
          simp only [f_P_finish_33, re_g0, f_P_finish_58, f_P_finish_63]
          rw [if_neg (show ¬ (4 : Int32) = 0 by decide), if_pos True.intro, if_neg (show ¬ (1 : Int32) = 0 by decide), show (zs_up c2 0 22 4) 0 21 = c 0 14 from e21]
          exact k1
        rw [this]; rfl
      · exact k2
    · rw [if_neg (show ¬ b2 true = 0 by decide)]
      simp only [Bool.not_true]
      rw [if_pos (show b2 false = 0 from rfl)]
      obtain ⟨b, n1, n2⟩ := re_needs (s := c2) (show v / 2048 < 32 by omega) (show v % 8 < 8 by omega) d24 d28 m2
      obtain ⟨T, a, k, x, n, z, vv, cc, r0, r1, r2, r3, r4, r5, r6, r7, r8⟩ := id hO.1.2.1
      obtain ⟨c', m', k1, k2, k3, k4⟩ := re_oper hO hv g2 e22 (show v / 2048 < 32 by omega) (show v / 512 % 4 < 4 by omega) (show v / 64 % 8 < 8 by omega) (show v / 8 % 8 < 8 by omega) (show v % 8 < 8 by omega) d24 d25 d26 d27 d28 hl t
      have go151 : f_M_instruction_151 m2 (b2 t) (nI (v / 2048)) (nI (v / 512 % 4)) (nI (v / 64 % 8)) (nI (v / 8 % 8)) (nI (v % 8)) = some m' := by
        simp only [f_M_instruction_151, if_pos g']; exact k2
      simp only [n1, Option.bind_some, (re_hasC r0).2.2.2.2.1, f_M_instruction_116, if_pos g', r2, n2]
      cases a
      · cases b
        · rw [if_pos (show b2 false = 0 from rfl)]
          simp only [if_true, Option.bind_some]
          exact ⟨c', m', k1, by rw [if_pos (show b2 false = 0 from rfl)]; exact go151, k3, k4⟩
        · rw [if_neg (show ¬ b2 true = 0 by decide)]
          simp only [if_neg (show ¬ b2 true = 0 by decide), if_pos (show b2 false = 0 from rfl), Option.bind_some]
          have hE0 : re_E N c2 m2 8 v := re_ME (e := 8) hO hv (by decide) (by decide) (fun hh => absurd hh (by decide))
          have hE : re_E N (zs_up c2 0 22 8) m2 8 v := hE0
          obtain ⟨c', m', k1, k2, k3, k4⟩ := re_exc hE hO.2.1.2 hO.2.2.1 (by decide) (c 0 14) t
          refine ⟨c', m', ?_, ?_, k3, k4.trans hO.2.2.2.2.2.1⟩
          · simp only [re_go]
            rw [re_no (c := zs_up c2 0 22 8) (Or.inr (show ¬ (zs_up c2 0 22 8) 0 22 = 0 by rw [re_g0]; decide))]
            simp only [Option.bind_some, if_true]
            rw [re_124n (c := zs_up c2 0 22 8) (Or.inr (show ¬ (zs_up c2 0 22 8) 0 22 = 0 by rw [re_g0]; decide))]
            have : f_P_finish (zs_up c2 0 22 8) (b2 t) = some c' := by
              simp only [f_P_finish]
              rw [if_pos (show (zs_up c2 0 22 8) 0 10 = 0 from g2)]
              simp only [f_P_finish_21]
              rw [if_pos (show (zs_up c2 0 22 8) 0 20 = 0 from hO.2.1.2)]
              simp only [f_P_finish_33, re_g0, f_P_finish_58, f_P_finish_63]
              rw [if_neg (show ¬ (8 : Int32) = 0 by decide), if_neg (show ¬ (8 : Int32) = 4 by decide), if_pos True.intro, if_neg (show ¬ (1 : Int32) = 0 by decide), show (zs_up c2 0 22 8) 0 21 = c 0 14 from e21]
              exact k1
            rw [this]; rfl
          · exact k2
      · have hcl : (if b2 b = 0 then some c2 else if b2 true = 0 then some (zs_up c2 0 22 8) else some c2) = some c2 := by
          cases b <;> rfl
        rw [hcl]
        simp only [Option.bind_some, if_neg (show ¬ b2 true = 0 by decide)]
        exact ⟨c', m', k1, go151, k3, k4⟩
  · have g2 : ¬ c2 0 10 = 0 := by rw [e10]; exact g
    have g' : ¬ m2 0 15 = 0 := by rw [hO.1.2.2.2.2.1]; exact g2
    obtain ⟨c', m', k1, k2, k3, k4⟩ := re_fin hO hv t
    refine ⟨c', m', ?_, ?_, k3, k4⟩
    · simp only [if_neg g, Option.bind_some, re_go, re_no (Or.inl g2), if_true, re_124n (Or.inl g2), k1]
    · simp only [if_neg g', f_M_instruction_116, f_M_instruction_151]; exact k2
