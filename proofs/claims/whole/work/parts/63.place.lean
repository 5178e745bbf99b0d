/-! Operations whose operand is not read, and those that have none. -/
set_option maxRecDepth 100000 in
theorem re_pcM {N : Nat} {c m : ZS} (h : re_M N c m) (x : Int32) : re_M N (zs_up c 0 14 x) (zs_up m 0 2 x) ∧ re_K c m (zs_up c 0 14 x) (zs_up m 0 2 x) := by
  obtain ⟨hP, hF, hD, hX, hT⟩ := h
  refine ⟨⟨⟨hP.1, hP.2.1, hP.2.2.1, hP.2.2.2.1, rfl⟩, hF, hD.keep (fun k hk => re_g1 (by omega)) (fun k hk => re_g1 (by omega)) (fun _ => rfl) (fun _ => rfl), hX.keep (fun k _ _ => re_g1 (by omega)) (fun k _ _ => re_g1 (by omega)), hT⟩, fun k hk => re_g1 (by omega), rfl, rfl, fun k h1 _ => re_g1 (by omega)⟩
set_option maxRecDepth 100000 in
theorem re_callM {N : Nat} {c m : ZS} (h : re_M N c m) (h0 : c 0 10 = 0) (T : Int32) : ∃ c1 m1 c', f_Q_push c 2 (c 0 14) = some c1 ∧ f_M_push m 2 ((m 0 2).toInt64 &&& 4294967295) = some m1 ∧ f_P_call c T = some c' ∧ re_M N c1 m1 ∧ re_K c m c1 m1 ∧ (c1 0 10 = 0 → c' = zs_up c1 0 14 T) ∧ (¬ c1 0 10 = 0 → c' = c1) := by
  obtain ⟨a, ha, ea⟩ := re_of32 (c 0 14)
  obtain ⟨c1, m1, f1, f2, hM, hK, -, -, -⟩ := re_push (s := 2) (x := a) (w := a) h h0 (by decide) ha (by omega) rfl
  have f1' : f_Q_push c 2 (c 0 14) = some c1 := by rw [ea]; exact f1
  have f2' : f_M_push m 2 ((m 0 2).toInt64 &&& 4294967295) = some m1 := by rw [h.1.2.2.2.2, ea, re_u ha]; exact f2
  by_cases g : c1 0 10 = 0
  · exact ⟨c1, m1, zs_up c1 0 14 T, f1', f2', by simp only [f_P_call, f1', Option.bind_some, if_pos g, zs_nm], hM, hK, fun _ => rfl, fun hh => absurd g hh⟩
  · exact ⟨c1, m1, c1, f1', f2', by simp only [f_P_call, f1', Option.bind_some, if_neg g], hM, hK, fun hh => absurd hh g, fun _ => rfl⟩
set_option maxRecDepth 100000 in
theorem re_m04 {N : Nat} {c m : ZS} {md q s n : Int32} {w : Int64} (hM : re_M N c m) (g : ¬ c 0 10 = 0) (h : ¬ md = 0) : f_M_put m md q s w = some m := by
  have g15 : ¬ m 0 15 = 0 := by rw [hM.2.2.2.2.1]; exact g
  simp only [f_M_put, if_neg h, if_neg g15]
set_option maxRecDepth 100000 in
theorem re_opN {N f : Nat} {th : Int32} {c m : ZS} {op s r md q : Nat} (hO : re_O N f th c m) (h0 : c 0 10 = 0) (hd : re_dc c op s r md q) (hl : re_leg op s r md q = true) (hop' : op = 1 ∨ op = 13 ∨ op = 27 ∨ op = 12 ∨ op = 22 ∨ op = 23) : ∃ c1 c' m', f_P_takeOperand c = some c1 ∧ c1 0 22 = c 0 22 ∧ (if c1 0 10 = 0 then f_P_execute c1 else some c1) = some c' ∧ f_M_does m (nI op) (nI s) (nI r) (nI md) (nI q) = some m' ∧ re_O N f th c' m' := by
  obtain ⟨hop, hs, hr, hmd, hq, e24, e25, e26, e27, e28⟩ := hd
  have n21 : ¬ op = 21 := by omega
  obtain ⟨-, -, y1, y2, y3, y4⟩ := re_lgf hop (show s < 4 by omega) hmd hq (by omega) (re_lgr hl n21)
  have hany : re_any md q = true := y1.resolve_left (show ¬ op = 17 by omega)
  have hn8 : ¬ md = 1 ∧ ¬ (md = 6 ∧ q = 2) := by
    rcases hop' with hh | hh | hh | hh | hh | hh
    · exact y2 (by omega)
    · exact y2 (by omega)
    · exact y2 (by omega)
    · have := y4 (by omega); omega
    · have := y4 (by omega); omega
    · have := y4 (by omega); omega
  have hrd : re_rdo op = false := by rcases hop' with rfl | rfl | rfl | rfl | rfl | rfl <;> rfl
  obtain ⟨c1, m1, f1, f2, hM, hJ, hY, hmd2⟩ := re_takeN hO.1 h0 hop hs hmd hq hany hn8.2 e24 e25 e27 e28 hrd
  have hO1 := re_J.out hO hM hJ
  obtain ⟨u, hu, eu⟩ := re_of32 (c 2 r)
  have j22 := hJ.1 22 (by decide) (by decide)
  have e2c1 : c1 2 r = nI u := (hJ.2.1 r).trans eu
  have e2m1 : m1 2 r = nI u := (hM.1.2.1 r).trans e2c1
  have er : ¬ (nI r < 0 ∨ 8 ≤ r) := by have := re_ri hr; rwa [re_cl hr] at this
  have b24 := (hJ.1 24 (by decide) (by decide)).trans e24
  have b25 := (hJ.1 25 (by decide) (by decide)).trans e25
  have b26 := (hJ.1 26 (by decide) (by decide)).trans e26
  have ex := re_exC (V := c1 0 33) hop hr b24 b25 b26 e2c1 rfl
  obtain ⟨b29, b30, b31, b32⟩ := id hY
  have e32 : ¬ md = 0 → c1 0 32 = m1 0 21 := fun hh => b32 (by omega)
  have tm0 : nI md = 0 ↔ md = 0 := re_inj (a := md) (b := 0) (by omega) (by decide)
  have g2 : ¬ c1 0 10 = 0 → ¬ nI md = 0 := fun hh h' => hh (hmd2 (by have := tm0.mp h'; omega))
  have hW0 := re_Wp s
  -- the reference's two ways in
  have hst : ∀ (w : Int64), (op = 1 ∨ op = 13) → w = (if op = 1 then lN (u % re_W s) else 0) → f_M_does m (nI op) (nI s) (nI r) (nI md) (nI q) = f_M_reckons_44 m1 (nI s) (nI md) (nI q) w := by
    intro w h1 hw
    rw [re_doesR (by omega) (by omega) (by omega) (by omega)]
    obtain ⟨t0, t1, t2, t3, t4, t5, t6, t7, t8, t9, t10, t11, t12, t13, t14, t15, t16, t17, t18, t19, t20, t21, t22, t23, t24, t25, t26, t27, t28, t29⟩ := re_te (op := op) (by omega)
    simp only [f_M_reckons, f2, Option.bind_some, re_cl hr, if_neg er, e2m1, re_cutn hs hu, t1, t13, f_M_reckons_33, hw]
    rcases h1 with rfl | rfl <;> simp only [Nat.reduceEqDiff, if_false, if_true]
  have hpl : (op = 12 ∨ op = 22 ∨ op = 23) → f_M_does m (nI op) (nI s) (nI r) (nI md) (nI q) = f_M_others_48 m1 (nI op) (nI r) := by
    intro h1
    rw [re_doesO hop (by omega) (by omega) (by omega) (by omega) (by omega)]
    obtain ⟨t0, t1, t2, t3, t4, t5, t6, t7, t8, t9, t10, t11, t12, t13, t14, t15, t16, t17, t18, t19, t20, t21, t22, t23, t24, t25, t26, t27, t28, t29⟩ := re_te (op := op) (by omega)
    simp only [f_M_others, f2, Option.bind_some, t27, t12, t22, t23]
    rcases h1 with rfl | rfl | rfl <;> simp only [Nat.reduceEqDiff, if_false, if_true]
  by_cases g : c1 0 10 = 0
  · have g15 : m1 0 15 = 0 := by rw [hM.2.2.2.2.1, g]
    rcases hop' with rfl | rfl | rfl | rfl | rfl | rfl
    · obtain ⟨c', m', k1, k2, hM', hK'⟩ := re_stMk (x := u) hM g hs hmd hq hu rfl b25 b29 b30 b31 e32
      refine ⟨c1, c', m', f1, j22, ?_, ?_, hO1.keep hM' hK'⟩
      · rw [if_pos g, ex]
        show (f_P_storeMarked c1 (nI u)).bind _ = _
        rw [k1]; rfl
      · rw [hst _ (Or.inl rfl) rfl]; exact k2
    · obtain ⟨c', m', k1, k2, hM', hK'⟩ := re_stMk (x := 0) hM g hs hmd hq (by decide) (Nat.zero_mod _) b25 b29 b30 b31 e32
      refine ⟨c1, c', m', f1, j22, ?_, ?_, hO1.keep hM' hK'⟩
      · rw [if_pos g, ex]
        show (f_P_storeMarked c1 (nI 0)).bind _ = _
        rw [k1]; rfl
      · rw [hst _ (Or.inr rfl) rfl]; exact k2
    · have h1 : s = 1 := y3 (by omega)
      subst h1
      obtain ⟨t, a, k, x, n, z, v, cc, r0, -⟩ := id hM.2.1
      obtain ⟨p, hp⟩ := re_pkn t a k x n z v cc
      have e15 : c1 0 15 = nI p.val := r0.trans hp
      have hpl' : p.val < 65536 := p.isLt
      obtain ⟨c', m', k1, k2, hS, -⟩ := re_store (x := p.val) (w := p.val) hM.1.1 hM.1.2.1 hM.2.2.1 g g15 (show 1 < 3 by decide) hmd hq (by omega) (by omega) rfl b29 b30 b31 e32
      obtain ⟨hM', hK'⟩ := hS.toM' hM
      refine ⟨c1, c', m', f1, j22, ?_, ?_, hO1.keep hM' hK'⟩
      · rw [if_pos g, ex]
        show (f_O_store c1 (c1 0 15)).bind _ = _
        rw [e15, k1]; rfl
      · rw [re_doesO hop (by omega) (by omega) (by omega) (by omega) (by omega)]
        have k2' : f_M_put m1 (nI md) (nI q) 1 (lN p.val) = some m' := k2
        simp only [f_M_others, f2, Option.bind_some]
        rw [if_pos (show nI 27 = 27 by decide), re_packed hM.2.1]
        simp only [Option.bind_some]
        rw [e15, nI_l (by omega), k2']; rfl
    · have hd := re_aput hM r (c1 0 32)
      refine ⟨c1, _, zs_up m1 3 r (c1 0 32), f1, j22, ?_, ?_, hO1.keep hd.1 hd.2⟩
      · rw [if_pos g, ex]; rfl
      · rw [hpl (Or.inl rfl)]
        have hmd0 := y4 (Or.inl rfl)
        simp only [f_M_others_48, if_pos g15, zs_nm, f_M_others_82, f_M_others_104, f_M_others_124, f_M_others_128, re_cl hr, if_neg er, ← e32 (show ¬ md = 0 by omega)]
        simp only [if_neg (show ¬ nI 12 = 23 by decide), if_pos (show nI 12 = 12 by decide), re_up1]
    · have hd := re_pcM hM (c1 0 32)
      refine ⟨c1, _, zs_up m1 0 2 (c1 0 32), f1, j22, ?_, ?_, hO1.keep hd.1 hd.2⟩
      · rw [if_pos g, ex]; rfl
      · rw [hpl (Or.inr (Or.inl rfl))]
        have hmd0 := y4 (Or.inr (Or.inl rfl))
        simp only [f_M_others_48, if_pos g15, zs_nm, f_M_others_82, f_M_others_104, f_M_others_124, f_M_others_128, re_cl hr, if_neg er, ← e32 (show ¬ md = 0 by omega), re_up1]
        simp only [if_neg (show ¬ nI 22 = 23 by decide), if_neg (show ¬ nI 22 = 12 by decide), re_up1, if_pos g15]
    · obtain ⟨c2, m2, c', k1, k2, k3, hM2, hK2, q1, q2⟩ := re_callM hM g (c1 0 32)
      have hmd0 := y4 (Or.inr (Or.inr rfl))
      have e21 := e32 (show ¬ md = 0 by omega)
      have hexe : f_P_execute c1 = some c' := by
        rw [ex]
        show (f_P_call c1 (c1 0 32)).bind _ = _
        rw [k3]; rfl
      by_cases g3 : c2 0 10 = 0
      · have g3' : m2 0 15 = 0 := by rw [hM2.2.2.2.2.1, g3]
        have hd := re_pcM hM2 (c1 0 32)
        refine ⟨c1, c', zs_up m2 0 2 (c1 0 32), f1, j22, by rw [if_pos g, hexe], ?_, by rw [q1 g3]; exact hO1.keep hd.1 (hK2.trans hd.2)⟩
        rw [hpl (Or.inr (Or.inr rfl))]
        simp only [f_M_others_48, if_pos g15, zs_nm, k2, Option.bind_some, f_M_others_82, f_M_others_104, f_M_others_124, f_M_others_128, re_cl hr, if_neg er, ← e21, re_up1, if_pos g3']
        simp only [if_pos (show nI 23 = 23 by decide), if_neg (show ¬ nI 23 = 12 by decide)]
      · have g3' : ¬ m2 0 15 = 0 := by rw [hM2.2.2.2.2.1]; exact g3
        refine ⟨c1, c', m2, f1, j22, by rw [if_pos g, hexe], ?_, by rw [q2 g3]; exact hO1.keep hM2 hK2⟩
        rw [hpl (Or.inr (Or.inr rfl))]
        simp only [f_M_others_48, if_pos g15, zs_nm, k2, Option.bind_some, f_M_others_82, f_M_others_104, f_M_others_124, f_M_others_128, re_cl hr, if_neg er, ← e21, re_up1, if_neg g3']
        simp only [if_pos (show nI 23 = 23 by decide), if_neg (show ¬ nI 23 = 12 by decide)]
  · have g15 : ¬ m1 0 15 = 0 := by rw [hM.2.2.2.2.1]; exact g
    refine ⟨c1, c1, m1, f1, j22, by rw [if_neg g], ?_, hO1⟩
    have hput : ∀ (s' : Int32) (w : Int64), f_M_put m1 (nI md) (nI q) s' w = some m1 := fun s' w => re_m04 (n := 0) hM g (g2 g)
    rcases hop' with rfl | rfl | rfl | rfl | rfl | rfl
    · rw [hst _ (Or.inl rfl) rfl]
      simp only [f_M_reckons_44, hput, Option.bind_some, if_neg g15]
    · rw [hst _ (Or.inr rfl) rfl]
      simp only [f_M_reckons_44, hput, Option.bind_some, if_neg g15]
    · rw [re_doesO hop (by omega) (by omega) (by omega) (by omega) (by omega)]
      simp only [f_M_others, f2, Option.bind_some]
      rw [if_pos (show nI 27 = 27 by decide), re_packed hM.2.1]
      simp only [Option.bind_some, hput]
    · rw [hpl (Or.inl rfl)]; simp only [f_M_others_48, if_neg g15]
    · rw [hpl (Or.inr (Or.inl rfl))]; simp only [f_M_others_48, if_neg g15]
    · rw [hpl (Or.inr (Or.inr rfl))]; simp only [f_M_others_48, if_neg g15]
