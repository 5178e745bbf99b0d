/-! The operand's value. -/
def re_hop (op : Nat) : Bool := !(op == 17 || op == 21 || op == 24 || op == 25 || op == 28 || decide (29 < op))
set_option maxRecDepth 100000 in
theorem re_hasO {c : ZS} {op : Nat} (hop : op < 32) (e24 : c 0 24 = nI op) : f_I_hasOperand c = some (b2 (re_hop op), c) := by
  have hc : op = 0 ∨ op = 1 ∨ op = 2 ∨ op = 3 ∨ op = 4 ∨ op = 5 ∨ op = 6 ∨ op = 7 ∨ op = 8 ∨ op = 9 ∨ op = 10 ∨ op = 11 ∨ op = 12 ∨ op = 13 ∨ op = 14 ∨ op = 15 ∨ op = 16 ∨ op = 17 ∨ op = 18 ∨ op = 19 ∨ op = 20 ∨ op = 21 ∨ op = 22 ∨ op = 23 ∨ op = 24 ∨ op = 25 ∨ op = 26 ∨ op = 27 ∨ op = 28 ∨ op = 29 ∨ op = 30 ∨ op = 31 := by omega
  simp only [f_I_hasOperand, e24, zs_nm]
  rcases hc with rfl | rfl | rfl | rfl | rfl | rfl | rfl | rfl | rfl | rfl | rfl | rfl | rfl | rfl | rfl | rfl | rfl | rfl | rfl | rfl | rfl | rfl | rfl | rfl | rfl | rfl | rfl | rfl | rfl | rfl | rfl | rfl
  all_goals rfl
def re_rdo (op : Nat) : Bool := !(op == 1 || op == 13 || op == 27 || op == 12 || op == 22 || op == 23 || op == 17 || op == 21 || op == 24 || op == 25 || op == 28 || decide (29 < op))
set_option maxRecDepth 100000 in
theorem re_reads {c : ZS} {op : Nat} (hop : op < 32) (e24 : c 0 24 = nI op) : f_I_readsOperand c = some (b2 (re_rdo op), c) := by
  have hc : op = 0 ∨ op = 1 ∨ op = 2 ∨ op = 3 ∨ op = 4 ∨ op = 5 ∨ op = 6 ∨ op = 7 ∨ op = 8 ∨ op = 9 ∨ op = 10 ∨ op = 11 ∨ op = 12 ∨ op = 13 ∨ op = 14 ∨ op = 15 ∨ op = 16 ∨ op = 17 ∨ op = 18 ∨ op = 19 ∨ op = 20 ∨ op = 21 ∨ op = 22 ∨ op = 23 ∨ op = 24 ∨ op = 25 ∨ op = 26 ∨ op = 27 ∨ op = 28 ∨ op = 29 ∨ op = 30 ∨ op = 31 := by omega
  simp only [f_I_readsOperand, f_I_readsOperand_26, f_I_readsOperand_31, re_hasO hop e24, Option.bind_some, e24, zs_nm, if_true]
  rcases hc with rfl | rfl | rfl | rfl | rfl | rfl | rfl | rfl | rfl | rfl | rfl | rfl | rfl | rfl | rfl | rfl | rfl | rfl | rfl | rfl | rfl | rfl | rfl | rfl | rfl | rfl | rfl | rfl | rfl | rfl | rfl | rfl
  all_goals rfl
set_option maxRecDepth 100000 in
/-- an operand that is placed and not read -/
theorem re_takeN {N : Nat} {c m : ZS} (h : re_M N c m) (h0 : c 0 10 = 0) {op md q s : Nat} (hop : op < 32) (hs : s < 3) (hmd : md < 8) (hq : q < 8) (hany : re_any md q = true) (h8 : ¬ (md = 6 ∧ q = 2)) (e24 : c 0 24 = nI op) (e25 : c 0 25 = nI s) (e27 : c 0 27 = nI md) (e28 : c 0 28 = nI q) (hrd : re_rdo op = false) : ∃ c' m', f_P_takeOperand c = some c' ∧ f_M_locate m (nI md) (nI q) (nI s) = some m' ∧ re_M N c' m' ∧ re_J c m c' m' ∧ re_Y c' m' md q s ∧ (md < 2 → c' 0 10 = 0) := by
  obtain ⟨c1, m1, f1, f2, hM, hJ, hY, h2⟩ := re_locate h h0 hs hmd hq hany h8 e25 e27 e28
  refine ⟨c1, m1, ?_, f2, hM, hJ, hY, h2⟩
  have e24' : c1 0 24 = nI op := by rw [hJ.1 24 (by decide) (by decide)]; exact e24
  simp only [f_P_takeOperand, f1, Option.bind_some]
  by_cases g : c1 0 10 = 0
  · rw [if_pos g, re_reads hop e24', hrd]; rfl
  · rw [if_neg g]
def re_V (c' m' : ZS) (md q s v : Nat) (val : Int64) : Prop := v < re_W s ∧ c' 0 33 = nI v ∧ val = lN v ∧ c' 0 29 = nI (re_wy md q) ∧ c' 0 30 = nI q ∧ c' 0 31 = nI s ∧ (2 ≤ md → ¬ (md = 6 ∧ q = 2) → ∃ n, n < 2 ^ 32 ∧ c' 0 32 = nI n ∧ m' 0 21 = nI n ∧ ¬ re_ok n s = 0)
set_option maxRecDepth 100000 in
theorem re_ld {c : ZS} {s x : Nat} (hs : s < 3) (e31 : c 0 31 = nI s) (e33 : c 0 33 = nI x) : f_O_load_106 c = some (zs_up c 0 33 (nI (x % re_W s))) := by
  simp only [f_O_load_106, e31, e33, re_maskOf hs, Option.bind_some, zs_nm, re_andW hs]
set_option maxRecDepth 100000 in
theorem re_take {N : Nat} {c m : ZS} (h : re_M N c m) (h0 : c 0 10 = 0) {op md q s : Nat} (hop : op < 32) (hs : s < 3) (hmd : md < 8) (hq : q < 8) (hany : re_any md q = true) (e24 : c 0 24 = nI op) (e25 : c 0 25 = nI s) (e27 : c 0 27 = nI md) (e28 : c 0 28 = nI q) (hrd : re_rdo op = true) : ∃ (c' m1 m2 : ZS) (val : Int64), f_P_takeOperand c = some c' ∧ f_M_locate m (nI md) (nI q) (nI s) = some m1 ∧ f_M_operand m1 (nI md) (nI q) (nI s) = some (val, m2) ∧ re_M N c' m2 ∧ re_J c m c' m2 ∧ (∀ j, m1 2 j = c 2 j) ∧ (c' 0 10 = 0 → ∃ v, re_V c' m2 md q s v val) := by
  have hc : md < 6 ∨ (md = 6 ∧ q < 4) := by simpa [re_any] using hany
  have tm : ∀ k : Nat, k < 10 → (nI md = nI k ↔ md = k) := fun k hk => re_inj (by omega) (by omega)
  have tm0 : nI md = 0 ↔ md = 0 := tm 0 (by decide)
  have tm6 : nI md = 6 ↔ md = 6 := tm 6 (by decide)
  have tg2 : (2 : Int32) ≤ nI md ↔ 2 ≤ md := nI_leI (a := 2) (by decide) (by omega)
  have tq2 : nI q = 2 ↔ q = 2 := re_inj (a := q) (b := 2) (by omega) (by decide)
  have ts2 : nI s = 2 ↔ s = 2 := re_inj (a := s) (b := 2) (by omega) (by decide)
  have ei : ¬ (nI q < 0 ∨ 8 ≤ q) := by have := re_ri hq; rwa [re_cl hq] at this
  have hwl : re_wy md q < 10 := by unfold re_wy; split <;> omega
  have te : ∀ k : Nat, k < 10 → (nI (re_wy md q) = nI k ↔ re_wy md q = k) := fun k hk => re_inj (by omega) (by omega)
  have te0 : nI (re_wy md q) = 0 ↔ re_wy md q = 0 := te 0 (by decide)
  have te1 : nI (re_wy md q) = 1 ↔ re_wy md q = 1 := te 1 (by decide)
  have te8 : nI (re_wy md q) = 8 ↔ re_wy md q = 8 := te 8 (by decide)
  by_cases h8 : md = 6 ∧ q = 2
  · obtain ⟨rfl, rfl⟩ := h8
    have hM4 := re_s4M h 8 2 s
    have g10 : re_s4 c 8 2 s 0 10 = 0 := h0
    have hw : re_wy 6 2 = 8 := rfl
    have key : ∀ (x : Nat) (c1 m1 : ZS), x < 2 ^ 32 → (if s = 2 then f_Q_nextLong (re_s4 c 8 2 s) else f_Q_nextWord (re_s4 c 8 2 s)) = some (nI x, c1) → (if s = 2 then f_M_fetchLong (zs_up m 0 21 0) else f_M_fetch (zs_up m 0 21 0)) = some (nI x, m1) → re_M N c1 m1 → re_K (re_s4 c 8 2 s) (zs_up m 0 21 0) c1 m1 → (∀ j, c1 2 j = c 2 j) → ∃ (c' m1 m2 : ZS) (val : Int64), f_P_takeOperand c = some c' ∧ f_M_locate m (nI 6) (nI 2) (nI s) = some m1 ∧ f_M_operand m1 (nI 6) (nI 2) (nI s) = some (val, m2) ∧ re_M N c' m2 ∧ re_J c m c' m2 ∧ (∀ j, m1 2 j = c 2 j) ∧ (c' 0 10 = 0 → ∃ v, re_V c' m2 6 2 s v val) := by
      intro x c1 m1 hx f1 f2 hM1 hK1 k1
      have hL : f_M_locate m (nI 6) (nI 2) (nI s) = some (zs_up m 0 21 0) := by rw [re_locM (by decide) hs (by decide)]; rfl
      have hOl : f_O_locate c = some (zs_up c1 0 33 (nI x)) := by
        have hs4 : zs_up (zs_up (zs_up c 0 29 (nI (re_wy 6 2))) 0 30 (nI 2)) 0 31 (nI s) = re_s4 c 8 2 s := rfl
        have a30 : re_s4 c 8 2 s 0 30 = nI 2 := rfl
        have a31 : re_s4 c 8 2 s 0 31 = nI s := rfl
        have a29 : re_s4 c 8 2 s 0 29 = nI 8 := rfl
        simp only [f_O_locate, re_way hmd hq hany e27 e28, Option.bind_some, zs_nm, re_g0, re_g1, Nat.reduceEqDiff, and_false, false_and, not_false_eq_true, e28, re_r8 hq, e25, hs4, a30, a29, a31, re_cl hq, if_neg ei, f_O_locate_235, ts2]
        rw [if_neg (show ¬ nI (re_wy 6 2) = 2 by decide), if_neg (show ¬ nI (re_wy 6 2) = 3 by decide), if_neg (show ¬ nI (re_wy 6 2) = 4 by decide), if_neg (show ¬ nI (re_wy 6 2) = 5 by decide), if_neg (show ¬ nI (re_wy 6 2) = 6 by decide), if_neg (show ¬ nI (re_wy 6 2) = 7 by decide), if_pos (show nI (re_wy 6 2) = 8 by decide)]
        by_cases g : s = 2
        · rw [if_pos g] at f1 ⊢; rw [f1]; rfl
        · rw [if_neg g] at f1 ⊢; rw [f1]; rfl
      have hOp : f_M_operand (zs_up m 0 21 0) (nI 6) (nI 2) (nI s) = some (lN (x % re_W s), m1) := by
        simp only [f_M_operand, f_M_operand_58, tg2, tm6, tq2, ts2, Nat.reduceLeDiff, if_true]
        by_cases g : s = 2
        · rw [if_pos g] at f2 ⊢; simp only [f2, Option.bind_some, re_cutn hs hx]
        · rw [if_neg g] at f2 ⊢; simp only [f2, Option.bind_some, re_cutn hs hx]
      have b29 : c1 0 29 = nI 8 := hK1.1 29 (by decide)
      have b30 : c1 0 30 = nI 2 := hK1.1 30 (by decide)
      have b31 : c1 0 31 = nI s := hK1.1 31 (by decide)
      have b24 : c1 0 24 = nI op := (hK1.1 24 (by decide)).trans ((re_s4k c 8 2 s 24 (by decide)).trans e24)
      have hJ1 : ∀ V, re_J c m (zs_up c1 0 33 V) m1 := fun V => ⟨fun k h1 h2 => by rw [re_g1 (by omega), hK1.1 k h1]; exact re_s4k c _ _ s k h2, fun j => k1 j, hK1.2.1, hK1.2.2.1, fun k h1 h2 => by rw [hK1.2.2.2 k h1 (by omega)]; exact re_g1 (by omega)⟩
      by_cases g : c1 0 10 = 0
      · have hT : f_P_takeOperand c = some (zs_up (zs_up c1 0 33 (nI x)) 0 33 (nI (x % re_W s))) := by
          simp only [f_P_takeOperand, hOl, Option.bind_some]
          rw [if_pos (show (zs_up c1 0 33 (nI x)) 0 10 = 0 from g), re_reads hop (show (zs_up c1 0 33 (nI x)) 0 24 = nI op from b24), hrd]
          simp only [Option.bind_some]
          rw [if_neg (show ¬ b2 true = 0 by decide)]
          simp only [f_O_load, zs_nm, re_ld (c := zs_up c1 0 33 (nI x)) hs b31 rfl]
          rw [show (zs_up c1 0 33 (nI x)) 0 29 = nI 8 from b29, if_neg (show ¬ nI 8 = 0 by decide), if_neg (show ¬ nI 8 = 1 by decide), if_pos (show nI 8 = 8 by decide)]
          rfl
        rw [re_up2] at hT
        refine ⟨_, _, _, _, hT, hL, hOp, re_Mup hM1 (by decide) _, hJ1 _, fun j => (h.1.2.1 j), fun _ => ⟨x % re_W s, Nat.mod_lt _ (re_Wp s), rfl, rfl, b29, b30, b31, fun _ hn => absurd ⟨rfl, rfl⟩ hn⟩⟩
      · have hT : f_P_takeOperand c = some (zs_up c1 0 33 (nI x)) := by
          simp only [f_P_takeOperand, hOl, Option.bind_some]
          rw [if_neg (show ¬ (zs_up c1 0 33 (nI x)) 0 10 = 0 from g)]
        exact ⟨_, _, _, _, hT, hL, hOp, re_Mup hM1 (by decide) _, hJ1 _, fun j => (h.1.2.1 j), fun hh => absurd hh g⟩
    by_cases g : s = 2
    · obtain ⟨v, c1, m1, hv, f1, f2, hM1, hK1, k1⟩ := re_long hM4 g10
      exact key v c1 m1 hv (by rw [if_pos g]; exact f1) (by rw [if_pos g]; exact f2) hM1 hK1 k1
    · obtain ⟨v, c1, m1, hv, f1, f2, hM1, hK1, k1, k3, -, -⟩ := re_fetch hM4 g10
      exact key v c1 m1 (by omega) (by rw [if_neg g]; exact f1) (by rw [if_neg g]; exact f2) hM1 hK1 k1
  · obtain ⟨c1, m1, f1, f2, hM, hJ, hY, h2⟩ := re_locate h h0 hs hmd hq hany h8 e25 e27 e28
    have hw8 : ¬ re_wy md q = 8 := by unfold re_wy; split <;> omega
    have b24 : c1 0 24 = nI op := by rw [hJ.1 24 (by decide) (by decide)]; exact e24
    obtain ⟨b29, b30, b31, b32⟩ := id hY
    have hm2 : ∀ j, m1 2 j = c 2 j := fun j => by rw [hM.1.2.1, hJ.2.1]
    have n8 : ¬ (2 ≤ md ∧ md = 6 ∧ q = 2) := fun hh => h8 hh.2
    by_cases g : c1 0 10 = 0
    · have hT : f_P_takeOperand c = f_O_load c1 := by
        simp only [f_P_takeOperand, f1, Option.bind_some]
        rw [if_pos g, re_reads hop b24, hrd]
        simp only [Option.bind_some]
        rw [if_neg (show ¬ b2 true = 0 by decide)]
        cases f_O_load c1 <;> rfl
      rw [hT]
      simp only [f_O_load, zs_nm, b29, b30, te0, te1, te8, re_r8 hq, re_cl hq, if_neg ei]
      by_cases g2 : 2 ≤ md
      · obtain ⟨n, hn, en⟩ := re_of32 (c1 0 32)
        have en' : m1 0 21 = nI n := (b32 g2).symm.trans en
        have g15 : m1 0 15 = 0 := by rw [hM.2.2.2.2.1, g]
        obtain ⟨v, c2, m2, hv, r1, r2, hA, -, hv0⟩ := re_read (s := s) hn hs hM.1.1 hM.2.2.1 g15
        have hZ := hA.z hM.1.1
        obtain ⟨hM2, hK2⟩ := hZ.toM (Or.inr rfl) hM g
        have hT1 := hZ.toT (Or.inr rfl) g g15
        have w0 : ¬ re_wy md q = 0 := by unfold re_wy; split <;> omega
        have w1 : ¬ re_wy md q = 1 := by unfold re_wy; split <;> omega
        have hvW : v < re_W s := hv
        simp only [if_neg w0, if_neg w1, if_neg hw8, en, b31, r1, Option.bind_some]
        rw [re_ld (c := zs_up c2 0 33 (nI v)) (x := v) hs (show (zs_up c2 0 33 (nI v)) 0 31 = nI s from (hK2.1 31 (by decide)).trans b31) rfl, Nat.mod_eq_of_lt hvW, re_up2]
        have hOp : f_M_operand m1 (nI md) (nI q) (nI s) = some (lN v, m2) := by
          simp only [f_M_operand, f_M_operand_68, tg2, tm6, tq2, if_pos g2, en', r2, Option.bind_some]
          by_cases y1 : md = 6
          · rw [if_pos y1, if_neg (fun y2 => h8 ⟨y1, y2⟩)]
          · rw [if_neg y1]
        refine ⟨_, _, _, _, rfl, f2, hOp, re_Mup hM2 (by decide) _, hJ.trans ⟨fun k h1 h2 => by rw [re_g1 (by omega)]; exact hK2.1 k h1, fun j => hZ.2.2.2.2.1 2 j (by decide), hK2.2.1, hK2.2.2.1, fun k h1 h2 => hK2.2.2.2 k h1 (by omega)⟩, hm2, fun hh => ⟨v, hvW, rfl, rfl, (hK2.1 29 (by decide)).trans b29, (hK2.1 30 (by decide)).trans b30, (hK2.1 31 (by decide)).trans b31, fun _ _ => ⟨n, hn, (hK2.1 32 (by decide)).trans en, (hK2.2.2.2 21 (by decide) (by decide)).trans en', hT1.2.mp hh⟩⟩⟩
      · have hwm : re_wy md q = md := by unfold re_wy; rw [if_pos (by omega)]
        have fin : ∀ x : Nat, x < 2 ^ 32 → ∃ c', f_O_load_106 (zs_up c1 0 33 (nI x)) = some c' ∧ re_M N c' m1 ∧ re_J c m c' m1 ∧ re_V c' m1 md q s (x % re_W s) (lN (x % re_W s)) := by
          intro x hx
          refine ⟨_, re_ld (c := zs_up c1 0 33 (nI x)) (x := x) hs b31 rfl, ?_, ?_, ?_⟩
          · rw [re_up2]; exact re_Mup hM (by decide) _
          · rw [re_up2]; exact ⟨fun k h1 h2 => by rw [re_g1 (by omega)]; exact hJ.1 k h1 h2, hJ.2.1, hJ.2.2.1, hJ.2.2.2.1, hJ.2.2.2.2⟩
          · exact ⟨Nat.mod_lt _ (re_Wp s), rfl, rfl, b29, b30, b31, fun hh => absurd hh g2⟩
        rw [hwm]
        by_cases y0 : md = 0
        · rw [if_pos y0]
          obtain ⟨x, hx, ex⟩ := re_of32 (c1 2 q)
          rw [ex]
          obtain ⟨c', z1, z2, z3, z4⟩ := fin x hx
          refine ⟨c', m1, m1, _, z1, f2, ?_, z2, z3, hm2, fun _ => ⟨_, z4⟩⟩
          simp only [f_M_operand, f_M_operand_26, tg2, tm0, if_neg g2, if_pos y0, re_cl hq, if_neg ei, hM.1.2.1, ex, re_cutn hs hx, Option.bind_some]
        · rw [if_neg y0, if_pos (show md = 1 by omega)]
          obtain ⟨x, hx, ex⟩ := re_of32 (c1 3 q)
          rw [ex]
          obtain ⟨c', z1, z2, z3, z4⟩ := fin x hx
          refine ⟨c', m1, m1, _, z1, f2, ?_, z2, z3, hm2, fun _ => ⟨_, z4⟩⟩
          simp only [f_M_operand, f_M_operand_26, tg2, tm0, if_neg g2, if_neg y0, re_cl hq, if_neg ei, hM.1.2.2.1, ex, re_cutn hs hx, Option.bind_some]
    · have g2 : 2 ≤ md := by
        by_cases y : 2 ≤ md
        · exact y
        · exact absurd (h2 (by omega)) g
      have g15 : ¬ m1 0 15 = 0 := by rw [hM.2.2.2.2.1]; exact g
      have hT : f_P_takeOperand c = some c1 := by
        simp only [f_P_takeOperand, f1, Option.bind_some]
        rw [if_neg g]
      refine ⟨c1, m1, m1, 0, hT, f2, ?_, hM, hJ, hm2, fun hh => absurd hh g⟩
      simp only [f_M_operand, f_M_operand_68, tg2, tm6, tq2, if_pos g2, re_mrd0 g15, Option.bind_some]
      by_cases y1 : md = 6
      · rw [if_pos y1, if_neg (fun y2 => h8 ⟨y1, y2⟩)]
      · rw [if_neg y1]
