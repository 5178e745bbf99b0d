/-! The devices' step and their level; the conditions; which words are instructions. -/
theorem re_dstep {N : Nat} {c m : ZS} (hD : re_D N c m) (hN : N ≤ 5000) : ∃ (c' m' : ZS), f_D_step c = some c' ∧ f_M_devices m = some m' ∧ re_D (N + 1) c' m' ∧ (∀ k, 10 ≤ k → c' 0 k = c 0 k) ∧ (∀ k, k < 22 → m' 0 k = m 0 k) ∧ (∀ i j, 1 ≤ i → i < 4 → c' i j = c i j) ∧ (∀ i j, 1 ≤ i → i < 4 → m' i j = m i j) := by
  have line : ∀ (c m : ZS), re_D N c m → ∃ (c' m' : ZS), f_D_stepLine c = some c' ∧ f_M_devices_50 m = some m' ∧ re_D (N + 1) c' m' ∧ (∀ k, 10 ≤ k → c' 0 k = c 0 k) ∧ (∀ k, k < 22 → m' 0 k = m 0 k) ∧ (∀ i j, 1 ≤ i → i < 4 → c' i j = c i j) ∧ (∀ i j, 1 ≤ i → i < 4 → m' i j = m i j) := by
    intro c m hD
    obtain ⟨d1, d2, d3, d4, d5, d6, d7, ⟨g, hg, d8⟩, d9, d10⟩ := id hD
    simp only [f_D_stepLine, f_M_devices_50, zs_nm]
    rcases d7 with ⟨l1, l2⟩ | ⟨l1, l2, l3, l4⟩
    · rw [if_pos l1, if_pos l2]
      exact ⟨c, m, rfl, rfl, hD.mono (by omega), fun _ _ => rfl, fun _ _ => rfl, fun _ _ _ _ => rfl, fun _ _ _ _ => rfl⟩
    · have l5 : ¬ m 0 28 = -1 := by rw [l2]; exact re_nm l3
      rw [if_neg l1, if_neg l5]
      have e1 : (zs_up c 0 7 (c 0 7 - 1)) 0 7 = c 0 7 - 1 := rfl
      have e2 : (zs_up m 0 29 (m 0 29 - 1)) 0 29 = c 0 7 - 1 := by show m 0 29 - 1 = _; rw [l4]
      have e3 : (zs_up c 0 7 (c 0 7 - 1)) 0 9 = nI g := d8
      have e4 : (zs_up m 0 29 (m 0 29 - 1)) 0 30 = nI g := by show m 0 30 = _; rw [d9, d8]
      rw [e1, e2, e3, e4, re_rem16 (j := 0) (by omega)]
      have hin := nI_in (c := g % 16) (N := 16) (by omega) (by decide)
      by_cases z : c 0 7 - 1 = 0
      · rw [if_pos z, if_pos z, if_neg hin, if_neg hin, nI_clamp (by omega)]
        refine ⟨_, _, rfl, rfl, ⟨d1, d2, d3, d4, d5, d6, Or.inl ⟨z, rfl⟩, ⟨g + 1, by omega, ?_⟩, ?_, fun j => ?_⟩, fun k hk => ?_, fun k hk => ?_, fun i j h1 h2 => ?_, fun i j h1 h2 => ?_⟩
        · show c 0 9 + 1 = nI (g + 1); rw [d8, nI_1]
        · show m 0 30 + 1 = c 0 9 + 1; rw [d9]
        · show (if j = g % 16 then m 0 28 else m 4 j) = if j = g % 16 then c 0 8 else c 4 j
          rw [l2, d10]
        · simp [zs_up, show k ≠ 7 by omega, show k ≠ 9 by omega]
        · simp [zs_up, show k ≠ 28 by omega, show k ≠ 29 by omega, show k ≠ 30 by omega]
        · simp [zs_up, show i ≠ 0 by omega, show i ≠ 4 by omega]
        · simp [zs_up, show i ≠ 0 by omega, show i ≠ 4 by omega]
      · rw [if_neg z, if_neg z]
        refine ⟨_, _, rfl, rfl, ⟨d1, d2, d3, d4, d5, d6, Or.inr ⟨z, l2, l3, ?_⟩, ⟨g, by omega, d8⟩, d9, d10⟩, fun k hk => ?_, fun k hk => ?_, fun i j h1 h2 => ?_, fun i j h1 h2 => ?_⟩
        · show m 0 29 - 1 = c 0 7 - 1; rw [l4]
        · simp [zs_up, show k ≠ 7 by omega]
        · simp [zs_up, show k ≠ 29 by omega]
        · simp [zs_up, show i ≠ 0 by omega]
        · simp [zs_up, show i ≠ 0 by omega]
  obtain ⟨d1, d2, d3, d4, d5, d6, d7, d8, d9, d10⟩ := id hD
  simp only [f_D_step, f_D_stepTimer, f_M_devices, f_M_devices_47, zs_nm]
  rcases d3.2 with q | q
  · have q' : m 0 24 = 0 := by rw [d3.1, q]
    rw [if_pos q, if_pos q']
    obtain ⟨c', m', a1, a2, a3⟩ := line c m hD
    exact ⟨c', m', by simp only [Option.bind_some, a1], a2, a3⟩
  · have q1 : ¬ c 0 2 = 0 := by rw [q]; decide
    have q' : ¬ m 0 24 = 0 := by rw [d3.1, q]; decide
    rw [if_neg q1, if_neg q']
    have e1 : (zs_up c 0 1 (c 0 1 - 1)) 0 1 = c 0 1 - 1 := rfl
    have e2 : (zs_up m 0 22 (m 0 22 - 1)) 0 22 = c 0 1 - 1 := by show m 0 22 - 1 = _; rw [d2]
    rw [e1, e2]
    by_cases z : c 0 1 - 1 = 0
    · rw [if_pos z, if_pos z]
      let cB : ZS := zs_up (zs_up (zs_up c 0 1 (c 0 1 - 1)) 0 3 1) 0 1 (c 0 0)
      let mB : ZS := zs_up (zs_up (zs_up m 0 22 (m 0 22 - 1)) 0 25 1) 0 22 (c 0 0)
      have hB : re_D N cB mB := ⟨d1, rfl, d3, ⟨rfl, Or.inr rfl⟩, d5, d6, d7, d8, d9, d10⟩
      obtain ⟨c', m', a1, a2, a3, a4, a5, a6, a7⟩ := line cB mB hB
      refine ⟨c', m', ?_, ?_, a3, fun k hk => ?_, fun k hk => ?_, fun i j h1 h2 => ?_, fun i j h1 h2 => ?_⟩
      · show (f_D_stepLine cB).bind _ = _
        rw [a1]; rfl
      · have e3 : (zs_up (zs_up m 0 22 (m 0 22 - 1)) 0 25 1) 0 23 = m 0 23 := rfl
        rw [e3]
        by_cases y : m 0 23 = 0
        · rw [if_pos y] at d1 ⊢
          rw [← a2]; show f_M_devices_50 _ = f_M_devices_50 (zs_up _ 0 22 (c 0 0)); rw [d1]
        · rw [if_neg y] at d1 ⊢
          rw [← a2]; show f_M_devices_50 _ = f_M_devices_50 (zs_up _ 0 22 (c 0 0)); rw [d1]
      · rw [a4 k hk]; simp [cB, zs_up, show k ≠ 1 by omega, show k ≠ 3 by omega]
      · rw [a5 k hk]; simp [mB, zs_up, show k ≠ 22 by omega, show k ≠ 25 by omega]
      · rw [a6 i j h1 h2]; simp [cB, zs_up, show i ≠ 0 by omega]
      · rw [a7 i j h1 h2]; simp [mB, zs_up, show i ≠ 0 by omega]
    · rw [if_neg z, if_neg z]
      have hB : re_D N (zs_up c 0 1 (c 0 1 - 1)) (zs_up m 0 22 (m 0 22 - 1)) := ⟨d1, (by show m 0 22 - 1 = c 0 1 - 1; rw [d2]), d3, d4, d5, d6, d7, d8, d9, d10⟩
      obtain ⟨c', m', a1, a2, a3, a4, a5, a6, a7⟩ := line _ _ hB
      refine ⟨c', m', ?_, a2, a3, fun k hk => ?_, fun k hk => ?_, fun i j h1 h2 => ?_, fun i j h1 h2 => ?_⟩
      · simp only [Option.bind_some, a1]
      · rw [a4 k hk]; simp [zs_up, show k ≠ 1 by omega]
      · rw [a5 k hk]; simp [zs_up, show k ≠ 22 by omega]
      · rw [a6 i j h1 h2]; simp [zs_up, show i ≠ 0 by omega]
      · rw [a7 i j h1 h2]; simp [zs_up, show i ≠ 0 by omega]
theorem re_pkC : ∀ (t a : Bool) (k : Fin 8) (x n z v c : Bool), re_pk t a k x n z v c &&& 1 = b2 c := by decide +kernel
theorem re_pkV : ∀ (t a : Bool) (k : Fin 8) (x n z v c : Bool), re_pk t a k x n z v c &&& 2 = if v then 2 else 0 := by decide +kernel
theorem re_pkZ : ∀ (t a : Bool) (k : Fin 8) (x n z v c : Bool), re_pk t a k x n z v c &&& 4 = if z then 4 else 0 := by decide +kernel
theorem re_pkN : ∀ (t a : Bool) (k : Fin 8) (x n z v c : Bool), re_pk t a k x n z v c &&& 8 = if n then 8 else 0 := by decide +kernel
theorem re_pkA : ∀ (t a : Bool) (k : Fin 8) (x n z v c : Bool), re_pk t a k x n z v c &&& 8192 = if a then 8192 else 0 := by decide +kernel
theorem re_pkT : ∀ (t a : Bool) (k : Fin 8) (x n z v c : Bool), re_pk t a k x n z v c &&& 32768 = if t then 32768 else 0 := by decide +kernel
theorem re_pkK : ∀ (t a : Bool) (k : Fin 8) (x n z v c : Bool), zo_shr (re_pk t a k x n z v c &&& 1792) 8 = nI k.val := by decide +kernel
theorem re_has {c : ZS} {b : Int32} {y : Bool} (hb : ¬ b = 0) (h : c 0 15 &&& b = if y then b else 0) : f_G_has c b = some (b2 y, c) := by
  simp only [f_G_has, h]
  cases y
  · simp [b2]
  · simp [hb, b2]
theorem re_hasC {c : ZS} {t a : Bool} {k : Fin 8} {x n z v cc : Bool} (h : c 0 15 = re_pk t a k x n z v cc) : f_G_has c 1 = some (b2 cc, c) ∧ f_G_has c 2 = some (b2 v, c) ∧ f_G_has c 4 = some (b2 z, c) ∧ f_G_has c 8 = some (b2 n, c) ∧ f_G_has c 8192 = some (b2 a, c) ∧ f_G_has c 32768 = some (b2 t, c) :=
  ⟨re_has (by decide) (by rw [h]; exact re_pkC _ _ _ _ _ _ _ _), re_has (by decide) (by rw [h]; exact re_pkV _ _ _ _ _ _ _ _), re_has (by decide) (by rw [h]; exact re_pkZ _ _ _ _ _ _ _ _), re_has (by decide) (by rw [h]; exact re_pkN _ _ _ _ _ _ _ _), re_has (by decide) (by rw [h]; exact re_pkA _ _ _ _ _ _ _ _), re_has (by decide) (by rw [h]; exact re_pkT _ _ _ _ _ _ _ _)⟩
def re_cond (q : Nat) (n z v c : Bool) : Bool :=
  let even := match q / 2 with
    | 0 => true
    | 1 => !c && !z
    | 2 => !c
    | 3 => !z
    | 4 => !v
    | 5 => !n
    | 6 => n == v
    | _ => (n == v) && !z
  even == (q % 2 == 0)
theorem re_meets {c : ZS} {t a : Bool} {k : Fin 8} {x n z v cc : Bool} (h : c 0 15 = re_pk t a k x n z v cc) {q : Nat} (hq : q < 16) : f_G_meets c (nI q) = some (b2 (re_cond q n z v cc), c) := by
  obtain ⟨g1, g2, g3, g4, -, -⟩ := re_hasC h
  rcases (show q = 0 ∨ q = 1 ∨ q = 2 ∨ q = 3 ∨ q = 4 ∨ q = 5 ∨ q = 6 ∨ q = 7 ∨ q = 8 ∨ q = 9 ∨ q = 10 ∨ q = 11 ∨ q = 12 ∨ q = 13 ∨ q = 14 ∨ q = 15 by omega) with rfl | rfl | rfl | rfl | rfl | rfl | rfl | rfl | rfl | rfl | rfl | rfl | rfl | rfl | rfl | rfl
  all_goals
    simp only [f_G_meets, zs_nm, g1, g2, g3, g4, Option.bind_some]
    cases n <;> cases z <;> cases v <;> cases cc <;> rfl
theorem re_holds {m : ZS} {n z v c : Bool} (h7 : m 0 7 = b2 n) (h8 : m 0 8 = b2 z) (h9 : m 0 9 = b2 v) (h10 : m 0 10 = b2 c) {q : Nat} (hq : q < 16) (hq1 : ¬ q = 1) : f_M_holds m (nI q) = some (b2 (re_cond q n z v c), m) := by
  rcases (show q = 0 ∨ q = 2 ∨ q = 3 ∨ q = 4 ∨ q = 5 ∨ q = 6 ∨ q = 7 ∨ q = 8 ∨ q = 9 ∨ q = 10 ∨ q = 11 ∨ q = 12 ∨ q = 13 ∨ q = 14 ∨ q = 15 by omega) with rfl | rfl | rfl | rfl | rfl | rfl | rfl | rfl | rfl | rfl | rfl | rfl | rfl | rfl | rfl
  all_goals
    simp only [f_M_holds, f_M_holds_16, f_M_holds_102, f_M_holds_115, h7, h8, h9, h10]
    cases n <;> cases z <;> cases v <;> cases c <;> rfl
theorem re_holds1 {m : ZS} : f_M_holds m (nI 1) = some (1, m) := by
  simp only [f_M_holds, f_M_holds_16, f_M_holds_102, f_M_holds_115]
  split <;> rfl
