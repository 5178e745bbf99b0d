/-! Which words are instructions. -/
def re_R (s s' : ZS) (A A' : Option (Int32 × ZS)) : Prop := (A = none ∧ A' = none) ∨ ∃ x, A = some (x, s) ∧ A' = some (x, s')
theorem re_R.pure {s s' : ZS} (x : Int32) : re_R s s' (some (x, s)) (some (x, s')) := Or.inr ⟨x, rfl, rfl⟩
theorem re_R.none {s s' : ZS} : re_R s s' none none := Or.inl ⟨rfl, rfl⟩
theorem re_R.ite {s s' : ZS} {P : Prop} [Decidable P] {A B A' B' : Option (Int32 × ZS)} (h1 : P → re_R s s' A A') (h2 : ¬ P → re_R s s' B B') : re_R s s' (if P then A else B) (if P then A' else B') := by
  by_cases h : P
  · rw [if_pos h, if_pos h]; exact h1 h
  · rw [if_neg h, if_neg h]; exact h2 h
theorem re_R.bind {s s' : ZS} {A A' : Option (Int32 × ZS)} {F F' : Int32 × ZS → Option (Int32 × ZS)} (hA : re_R s s' A A') (hF : ∀ x, re_R s s' (F (x, s)) (F' (x, s'))) : re_R s s' (A.bind F) (A'.bind F') := by
  rcases hA with ⟨rfl, rfl⟩ | ⟨x, rfl, rfl⟩
  · exact re_R.none
  · exact hF x
theorem re_R277 {s s' : ZS} (a b c d : Int32) : re_R s s' (f_M_legal_277 s a b c d) (f_M_legal_277 s' a b c d) := by
  simp only [f_M_legal_277, f_M_data, f_M_any, f_M_any_17, f_M_alterable, f_M_alterable_22]
  repeat' (first | exact re_R.pure _ | exact re_R.none | refine re_R.ite (fun _ => ?_) (fun _ => ?_) | refine re_R.bind ?_ (fun x => ?_))
theorem re_R241 {s s' : ZS} (a b c d e : Int32) : re_R s s' (f_M_legal_241 s a b c d e) (f_M_legal_241 s' a b c d e) := by
  simp only [f_M_legal_241, f_M_legal_268, f_M_legal_272, f_M_legal_276]
  repeat' (first | exact re_R277 _ _ _ _ | refine re_R.ite (fun _ => ?_) (fun _ => ?_))
theorem re_R165 {s s' : ZS} (a b c d e : Int32) : re_R s s' (f_M_legal_165 s a b c d e) (f_M_legal_165 s' a b c d e) := by
  simp only [f_M_legal_165, f_M_legal_236, f_M_places, f_M_places_26]
  repeat' (first | exact re_R241 _ _ _ _ _ | exact re_R.pure _ | exact re_R.none | refine re_R.ite (fun _ => ?_) (fun _ => ?_) | refine re_R.bind ?_ (fun x => ?_))
theorem re_R138 {s s' : ZS} (a b c d e : Int32) : re_R s s' (f_M_legal_138 s a b c d e) (f_M_legal_138 s' a b c d e) := by
  simp only [f_M_legal_138, f_M_legal_148, f_M_legal_159]
  repeat' (first | exact re_R165 _ _ _ _ _ | exact re_R.pure _ | refine re_R.ite (fun _ => ?_) (fun _ => ?_))
theorem re_R90 {s s' : ZS} (a b c d e : Int32) : re_R s s' (f_M_legal_90 s a b c d e) (f_M_legal_90 s' a b c d e) := by
  simp only [f_M_legal_90, f_M_legal_110, f_M_legal_115]
  repeat' (first | exact re_R138 _ _ _ _ _ | exact re_R.pure _ | refine re_R.ite (fun _ => ?_) (fun _ => ?_))
theorem re_Rleg {s s' : ZS} (a b c d e : Int32) : re_R s s' (f_M_legal s a b c d e) (f_M_legal s' a b c d e) := by
  simp only [f_M_legal, f_M_legal_67, f_M_legal_85]
  repeat' (first | exact re_R90 _ _ _ _ _ | exact re_R.pure _ | refine re_R.ite (fun _ => ?_) (fun _ => ?_))
def re_z (a b c d e : Int32) : ZS := fun _ k => if k = 24 then a else if k = 25 then b else if k = 26 then c else if k = 27 then d else e
theorem re_Rnone {s : ZS} {a b c d e : Int32} (h1 : s 0 24 = a) (h2 : s 0 25 = b) (h3 : ¬ a = 21) (h4 : s 0 27 = d) (h5 : s 0 28 = e) : re_R s (re_z a b c d e) (f_I_isNone s) (f_I_isNone (re_z a b c d e)) := by
  have g1 : re_z a b c d e 0 24 = a := rfl
  have g2 : re_z a b c d e 0 25 = b := rfl
  have g3 : re_z a b c d e 0 26 = c := rfl
  have g4 : re_z a b c d e 0 27 = d := rfl
  have g5 : re_z a b c d e 0 28 = e := rfl
  simp only [f_I_isNone, f_I_condition, f_I_hasOperand, f_I_kind, f_I_way, f_I_way_41, zs_nm, h1, h2, if_neg h3, h4, h5, g1, g2, g3, g4, g5]
  repeat' (first | exact re_R.pure _ | exact re_R.none | refine re_R.ite (fun _ => ?_) (fun _ => ?_) | (refine re_R.bind ?_ (fun x => ?_) <;> try simp only [h1, h2, h4, h5, g1, g2, g3, g4, g5]))
def re_alt (op : Nat) : Bool := op == 1 || op == 9 || op == 10 || op == 13 || op == 15 || op == 16 || op == 27
def re_pl (op : Nat) : Bool := op == 12 || op == 22 || op == 23
def re_any (m q : Nat) : Bool := decide (m < 6) || (m == 6 && decide (q < 4))
def re_leg (op size r m q : Nat) : Bool :=
  if op = 21 then decide (size * 8 + r < 16) else if op = 24 then decide (q < 5) else if op = 25 ∨ op = 28 then true else
  if 29 < op ∨ size = 3 then false else if op = 17 then decide (m < 6) else
  if re_pl op then size == 2 && (m == 2 || m == 5 || (m == 6 && (decide (q < 2) || q == 3))) else
  if ((18 ≤ op ∧ op ≤ 20) ∨ op = 26 ∨ op = 27 ∨ op = 29) ∧ size ≠ 1 then false else
  if (op = 2 ∨ op = 11) ∧ size = 0 then false else
  if re_alt op then m != 1 && (decide (m < 6) || (m == 6 && decide (q < 2))) else
  if op = 2 ∨ op = 11 ∨ ((op = 0 ∨ (3 ≤ op ∧ op ≤ 5)) ∧ 0 < size) then re_any m q else m != 1 && re_any m q
set_option maxRecDepth 16384 in
theorem re_legD : ∀ (op : Fin 32) (size : Fin 4) (m q : Fin 8), op.val = 21 ∨ ((f_M_legal zs_c0 (nI op.val) (nI size.val) 0 (nI m.val) (nI q.val)).map Prod.fst = some (b2 (re_leg op.val size.val 0 m.val q.val)) ∧ (f_I_isNone (re_z (nI op.val) (nI size.val) 0 (nI m.val) (nI q.val))).map Prod.fst = some (b2 (!(re_leg op.val size.val 0 m.val q.val)))) := by decide +kernel
theorem re_R.val {s s' : ZS} {A A' : Option (Int32 × ZS)} {x : Int32} (h : re_R s s' A A') (h' : A'.map Prod.fst = some x) : A = some (x, s) := by
  rcases h with ⟨rfl, rfl⟩ | ⟨y, rfl, rfl⟩
  · exact absurd h' (by simp)
  · simp at h'
    rw [h']
theorem re_legal {s : ZS} {op size r m q : Nat} (h1 : op < 32) (h2 : size < 4) (h3 : r < 8) (h4 : m < 8) (h5 : q < 8) : f_M_legal s (nI op) (nI size) (nI r) (nI m) (nI q) = some (b2 (re_leg op size r m q), s) := by
  by_cases h : op = 21
  · subst h
    have e : (nI size * 8) + nI r = nI (size * 8 + r) := by
      rw [show nI size * 8 = nI (size * 8) from pk_mul size 8, nI_add]
    have e2 : (16 : Int32) ≤ nI (size * 8 + r) ↔ 16 ≤ size * 8 + r := nI_leI (a := 16) (by decide) (by omega)
    simp only [f_M_legal, if_pos (show nI 21 = 21 from rfl), e, e2, re_leg, if_true]
    by_cases g : 16 ≤ size * 8 + r
    · rw [if_pos g, decide_eq_false (by omega)]; rfl
    · rw [if_neg g, decide_eq_true (by omega)]; rfl
  · have hd := (re_legD ⟨op, h1⟩ ⟨size, h2⟩ ⟨m, h4⟩ ⟨q, h5⟩).resolve_left h
    have hn : ¬ nI op = 21 := by show ¬ nI op = nI 21; rw [nI_eq (by omega) (by decide)]; exact h
    have e1 : f_M_legal s (nI op) (nI size) (nI r) (nI m) (nI q) = f_M_legal s (nI op) (nI size) 0 (nI m) (nI q) := by
      simp only [f_M_legal, if_neg hn]
    have e2 : re_leg op size r m q = re_leg op size 0 m q := by simp only [re_leg, if_neg h]
    rw [e1, e2]
    exact (re_Rleg _ _ _ _ _).val hd.1
theorem re_isNone {c : ZS} {op size r m q : Nat} (h1 : op < 32) (h2 : size < 4) (h3 : r < 8) (h4 : m < 8) (h5 : q < 8) (g1 : c 0 24 = nI op) (g2 : c 0 25 = nI size) (g3 : c 0 26 = nI r) (g4 : c 0 27 = nI m) (g5 : c 0 28 = nI q) : f_I_isNone c = some (b2 (!(re_leg op size r m q)), c) := by
  by_cases h : op = 21
  · subst h
    have e : (nI size * 8) + nI r = nI (size * 8 + r) := by
      rw [show nI size * 8 = nI (size * 8) from pk_mul size 8, nI_add]
    have e2 : nI (size * 8 + r) ≤ 15 ↔ size * 8 + r ≤ 15 := nI_leI (b := 15) (by omega) (by decide)
    have e3 : ¬ ((zo_shr (tb_SIZES ((nI 21 &&& 31).toNatClampNeg)) (nI size)) &&& 1) = 0 := by
      rcases (show size = 0 ∨ size = 1 ∨ size = 2 ∨ size = 3 by omega) with rfl | rfl | rfl | rfl <;> decide
    have e4 : ¬ (nI 21 &&& 31 < 0 ∨ 32 ≤ (nI 21 &&& 31).toNatClampNeg) := by decide
    simp only [f_I_isNone, zs_nm, g1, g2, if_neg e4, if_neg e3, if_neg (show ¬ nI 21 = 17 by decide), if_pos (show nI 21 = 21 from rfl), f_I_condition, Option.bind_some, g3, e, e2, re_leg, if_true]
    by_cases g : size * 8 + r ≤ 15
    · rw [if_pos g, decide_eq_true (by omega)]; rfl
    · rw [if_neg g, decide_eq_false (by omega)]; rfl
  · have hd := (re_legD ⟨op, h1⟩ ⟨size, h2⟩ ⟨m, h4⟩ ⟨q, h5⟩).resolve_left h
    have hn : ¬ nI op = 21 := by show ¬ nI op = nI 21; rw [nI_eq (by omega) (by decide)]; exact h
    have e2 : re_leg op size r m q = re_leg op size 0 m q := by simp only [re_leg, if_neg h]
    rw [e2]
    exact (re_Rnone g1 g2 hn g4 g5).val hd.2
theorem re_needs {s : ZS} {op q : Nat} (h1 : op < 32) (h5 : q < 8) (g1 : s 0 24 = nI op) (g5 : s 0 28 = nI q) (m : ZS) : ∃ b : Bool, f_I_needsSupervisor s = some (b2 b, s) ∧ f_M_needsAbove m (nI op) (nI q) = some (b2 b, m) := by
  simp only [f_I_needsSupervisor, f_I_needsSupervisor_43, f_M_needsAbove, f_M_needsAbove_28, g1, g5]
  repeat' split
  all_goals first | exact ⟨true, rfl, rfl⟩ | exact ⟨false, rfl, rfl⟩
