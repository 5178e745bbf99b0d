/-! A judgement with cells and slots counted, over any invariant I of state, heap and written places: for the law and its wrappers. -/
def ZL {ρ τ : Type} (E : ZE) (I : τ → Heap → List Loc → Prop) (nL : Nat) (F : ρ → State → Prop) (cells slots pc : Nat) (L : List (Nat × Value)) (st : List Value) (σ : τ) (r : Option ρ) : Prop :=
  ∀ z : ρ, r = some z → ∀ (H : Heap) (locs : List Loc) (ls : Array Slot), lv_has ls nL L → I σ H locs →
    W E.1 E.2.1 E.2.2.1 E.2.2.2.1 E.2.2.2.2.1 E.2.2.2.2.2.1 E.2.2.2.2.2.2.1 E.2.2.2.2.2.2.2.1 E.2.2.2.2.2.2.2.2.1 E.2.2.2.2.2.2.2.2.2 H locs cells slots (F z) (F0 E.2.2.2.2.2.1 pc ls st)
/-- the machine's own part of the context: no world -/
def ZX0 (E : ZE) (own : String) (cc : ByteArray) (nL : Nat) (ret : Option FieldType) (fr lo : Nat) : Prop :=
  E.1.tables.exec = Jvm.exec ∧ E.2.2.2.2.2.2.2.2.2.code = cc ∧ E.2.2.2.2.2.2.2.2.2.maxLocals = nL ∧ E.2.2.2.2.1.vm.findClass own = some E.2.2.2.2.2.1.cls ∧ (∀ w ∈ zw_w, w.before E.2.2.2.2.2.2.1 E.2.2.2.2.1 = true) ∧
  E.2.2.2.2.2.2.2.2.1.sig.returnType = ret ∧ E.2.2.2.2.2.2.2.2.1.locks = false ∧ fr ≤ E.2.2.2.1.frames ∧ lo ≤ E.2.2.2.1.locals ∧ zw_N E.2.2.2.2.1
section ZLR
variable {ρ τ : Type} {E : ZE} {I : τ → Heap → List Loc → Prop} {own : String} {cc : ByteArray} {nL : Nat} {ret : Option FieldType} {fr lo : Nat} {F : ρ → State → Prop} {cells slots pc : Nat} {L L2 : List (Nat × Value)} {st : List Value} {σ : τ} {r r1 r2 : Option ρ} {x y : Int32} {a b : Int64}
theorem zy_x (X : ZX0 E own cc nL ret fr lo) : E.1.tables.exec = Jvm.exec := X.1
theorem zy_c (X : ZX0 E own cc nL ret fr lo) : E.2.2.2.2.2.2.2.2.2.code = cc := X.2.1
theorem zy_m (X : ZX0 E own cc nL ret fr lo) : E.2.2.2.2.2.2.2.2.2.maxLocals = nL := X.2.2.1
theorem zy_o (X : ZX0 E own cc nL ret fr lo) : E.2.2.2.2.1.vm.findClass own = some E.2.2.2.2.2.1.cls := X.2.2.2.1
theorem zy_t (X : ZX0 E own cc nL ret fr lo) : ∀ w ∈ zw_w, w.before E.2.2.2.2.2.2.1 E.2.2.2.2.1 = true := X.2.2.2.2.1
theorem zy_r (X : ZX0 E own cc nL ret fr lo) : E.2.2.2.2.2.2.2.2.1.sig.returnType = ret := X.2.2.2.2.2.1
theorem zy_l (X : ZX0 E own cc nL ret fr lo) : E.2.2.2.2.2.2.2.2.1.locks = false := X.2.2.2.2.2.2.1
theorem zy_f (X : ZX0 E own cc nL ret fr lo) : fr ≤ E.2.2.2.1.frames := X.2.2.2.2.2.2.2.1
theorem zy_w (X : ZX0 E own cc nL ret fr lo) : lo ≤ E.2.2.2.1.locals := X.2.2.2.2.2.2.2.2.1
theorem zy_n (X : ZX0 E own cc nL ret fr lo) : zw_N E.2.2.2.2.1 := X.2.2.2.2.2.2.2.2.2
theorem zy_g (X : ZX0 E own cc nL ret fr lo) {w : Cond} (h : w ∈ lw_tbl) (g : goodWord w = true) : w.before E.2.2.2.2.2.2.1 E.2.2.2.2.1 = true := zy_t X w (zw_in h g)
theorem zl_none : ZL E I nL F cells slots pc L st σ none := fun _ hz => by cases hz
theorem zl_ng {c : Prop} {_ : Decidable c} (k : ¬ c → ZL E I nL F cells slots pc L st σ r) : ZL E I nL F cells slots pc L st σ (if c then none else r) := by
  intro z hz
  by_cases h : c
  · rw [if_pos h] at hz; cases hz
  · rw [if_neg h] at hz; exact k h z hz
theorem zl_nmi {K : Int32 → Option ρ} (k : ∀ v : Int32, ZL E I nL F cells slots pc L (.int v :: st) σ (K v)) : ZL E I nL F cells slots pc L (.int x :: st) σ (zs_nm x K) := k x
theorem zl_nml {K : Int64 → Option ρ} (k : ∀ v : Int64, ZL E I nL F cells slots pc L (.long v :: st) σ (K v)) : ZL E I nL F cells slots pc L (.long a :: st) σ (zs_nm a K) := k a
theorem zl_loc (ks : List Nat) (hL : lv_pick L ks = L2) (k : ZL E I nL F cells slots pc L2 st σ r) : ZL E I nL F cells slots pc L st σ r :=
  fun z hz H locs ls hl hI => k z hz H locs ls (lv_sub hl ks hL) hI
theorem zl_wide (c2 s2 : Nat) (hc : cells ≤ c2) (hs : slots ≤ s2) (k : ZL E I nL F c2 s2 pc L st σ r) : ZL E I nL F cells slots pc L st σ r :=
  fun z hz H locs ls hl hI => W.widen hc hs (k z hz H locs ls hl hI)
theorem zl_iconst (q : Nat) {n : Int} (v : Int32) (X : ZX0 E own cc nL ret fr lo) (d : decode cc pc = .ok (.iconst n, 1)) (hv : Int32.ofInt n = v) (hq : pc + 1 = q) (k : ZL E I nL F cells slots q L (.int v :: st) σ r) : ZL E I nL F cells slots pc L (st) σ r := by
  subst hq
  exact fun z hz H locs ls hl hI => lv_iconst (zy_x X) (zy_c X) d hv (k z hz H locs ls hl hI)
theorem zl_bipush (q : Nat) {n : Int} (v : Int32) (X : ZX0 E own cc nL ret fr lo) (d : decode cc pc = .ok (.bipush n, 2)) (hv : (Int8.ofInt n).toInt32 = v) (hq : pc + 2 = q) (k : ZL E I nL F cells slots q L (.int v :: st) σ r) : ZL E I nL F cells slots pc L (st) σ r := by
  subst hq
  exact fun z hz H locs ls hl hI => lv_bipush (zy_x X) (zy_c X) d hv (k z hz H locs ls hl hI)
theorem zl_lconst (q : Nat) {n : Fin 2} (v : Int64) (X : ZX0 E own cc nL ret fr lo) (d : decode cc pc = .ok (.lconst n, 1)) (hv : Int64.ofNat (n : Nat) = v) (hq : pc + 1 = q) (k : ZL E I nL F cells slots q L (.long v :: st) σ r) : ZL E I nL F cells slots pc L (st) σ r := by
  subst hq
  exact fun z hz H locs ls hl hI => lv_lconst (zy_x X) (zy_c X) d hv (k z hz H locs ls hl hI)
theorem zl_iload_n (q : Nat) (p : Nat) {n : Fin 4} {i : Nat} {v : Int32} (X : ZX0 E own cc nL ret fr lo) (d : decode cc pc = .ok (.iload_n n, 1)) (hi : (n : Nat) = i) (hk : L[p]? = some (i, .int v)) (hq : pc + 1 = q) (k : ZL E I nL F cells slots q L (.int v :: st) σ r) : ZL E I nL F cells slots pc L (st) σ r := by
  subst hq
  exact fun z hz H locs ls hl hI => lv_iload_n (zy_x X) (zy_c X) d hi (lv_at hl p hk) (k z hz H locs ls hl hI)
theorem zl_iload (q : Nat) (p : Nat) {i : Nat} {v : Int32} (X : ZX0 E own cc nL ret fr lo) (d : decode cc pc = .ok (.iload i, 2)) (hk : L[p]? = some (i, .int v)) (hq : pc + 2 = q) (k : ZL E I nL F cells slots q L (.int v :: st) σ r) : ZL E I nL F cells slots pc L (st) σ r := by
  subst hq
  exact fun z hz H locs ls hl hI => lv_iload (zy_x X) (zy_c X) d (lv_at hl p hk) (k z hz H locs ls hl hI)
theorem zl_istore_n (q : Nat) {n : Fin 4} {i : Nat} {v : Int32} (L2 : List (Nat × Value)) (X : ZX0 E own cc nL ret fr lo) (d : decode cc pc = .ok (.istore_n n, 1)) (hi : (n : Nat) = i) (hn : i < nL) (hL : (i, Value.int v) :: L.filter (fun q => !(q.1 == i) && !(q.1 + 1 == i && q.2.category == 2)) = L2) (hq : pc + 1 = q) (k : ZL E I nL F cells slots q L2 st σ r) : ZL E I nL F cells slots pc L (.int v :: st) σ r := by
  subst hq
  exact fun z hz H locs ls hl hI => lv_istore_n (zy_x X) (zy_c X) d hi hl hn hL (fun ls' hl' => k z hz H locs ls' hl' hI)
theorem zl_istore (q : Nat) {i : Nat} {v : Int32} (L2 : List (Nat × Value)) (X : ZX0 E own cc nL ret fr lo) (d : decode cc pc = .ok (.istore i, 2)) (hn : i < nL) (hL : (i, Value.int v) :: L.filter (fun q => !(q.1 == i) && !(q.1 + 1 == i && q.2.category == 2)) = L2) (hq : pc + 2 = q) (k : ZL E I nL F cells slots q L2 st σ r) : ZL E I nL F cells slots pc L (.int v :: st) σ r := by
  subst hq
  exact fun z hz H locs ls hl hI => lv_istore (zy_x X) (zy_c X) d hl hn hL (fun ls' hl' => k z hz H locs ls' hl' hI)
theorem zl_lload_n (q : Nat) (p : Nat) {n : Fin 4} {i : Nat} {v : Int64} (X : ZX0 E own cc nL ret fr lo) (d : decode cc pc = .ok (.lload_n n, 1)) (hi : (n : Nat) = i) (hk : L[p]? = some (i, .long v)) (hq : pc + 1 = q) (k : ZL E I nL F cells slots q L (.long v :: st) σ r) : ZL E I nL F cells slots pc L (st) σ r := by
  subst hq
  exact fun z hz H locs ls hl hI => lv_lload_n (zy_x X) (zy_c X) d hi (lv_at hl p hk) (k z hz H locs ls hl hI)
theorem zl_lload (q : Nat) (p : Nat) {i : Nat} {v : Int64} (X : ZX0 E own cc nL ret fr lo) (d : decode cc pc = .ok (.lload i, 2)) (hk : L[p]? = some (i, .long v)) (hq : pc + 2 = q) (k : ZL E I nL F cells slots q L (.long v :: st) σ r) : ZL E I nL F cells slots pc L (st) σ r := by
  subst hq
  exact fun z hz H locs ls hl hI => lv_lload (zy_x X) (zy_c X) d (lv_at hl p hk) (k z hz H locs ls hl hI)
theorem zl_lstore_n (q : Nat) {n : Fin 4} {i : Nat} {v : Int64} (L2 : List (Nat × Value)) (X : ZX0 E own cc nL ret fr lo) (d : decode cc pc = .ok (.lstore_n n, 1)) (hi : (n : Nat) = i) (hn : i + 1 < nL) (hL : (i, Value.long v) :: L.filter (fun q => !(q.1 == i) && (!(q.1 == i + 1) && !(q.1 + 1 == i && q.2.category == 2))) = L2) (hq : pc + 1 = q) (k : ZL E I nL F cells slots q L2 st σ r) : ZL E I nL F cells slots pc L (.long v :: st) σ r := by
  subst hq
  exact fun z hz H locs ls hl hI => lv_lstore_n (zy_x X) (zy_c X) d hi hl hn hL (fun ls' hl' => k z hz H locs ls' hl' hI)
theorem zl_lstore (q : Nat) {i : Nat} {v : Int64} (L2 : List (Nat × Value)) (X : ZX0 E own cc nL ret fr lo) (d : decode cc pc = .ok (.lstore i, 2)) (hn : i + 1 < nL) (hL : (i, Value.long v) :: L.filter (fun q => !(q.1 == i) && (!(q.1 == i + 1) && !(q.1 + 1 == i && q.2.category == 2))) = L2) (hq : pc + 2 = q) (k : ZL E I nL F cells slots q L2 st σ r) : ZL E I nL F cells slots pc L (.long v :: st) σ r := by
  subst hq
  exact fun z hz H locs ls hl hI => lv_lstore (zy_x X) (zy_c X) d hl hn hL (fun ls' hl' => k z hz H locs ls' hl' hI)
theorem zl_aload_n (q : Nat) (p : Nat) {n : Fin 4} {i : Nat} {v : Nat} (X : ZX0 E own cc nL ret fr lo) (d : decode cc pc = .ok (.aload_n n, 1)) (hi : (n : Nat) = i) (hk : L[p]? = some (i, .ref v)) (hq : pc + 1 = q) (k : ZL E I nL F cells slots q L (.ref v :: st) σ r) : ZL E I nL F cells slots pc L (st) σ r := by
  subst hq
  exact fun z hz H locs ls hl hI => lv_aload_n (zy_x X) (zy_c X) d hi (lv_at hl p hk) (k z hz H locs ls hl hI)
theorem zl_aload (q : Nat) (p : Nat) {i : Nat} {v : Nat} (X : ZX0 E own cc nL ret fr lo) (d : decode cc pc = .ok (.aload i, 2)) (hk : L[p]? = some (i, .ref v)) (hq : pc + 2 = q) (k : ZL E I nL F cells slots q L (.ref v :: st) σ r) : ZL E I nL F cells slots pc L (st) σ r := by
  subst hq
  exact fun z hz H locs ls hl hI => lv_aload (zy_x X) (zy_c X) d (lv_at hl p hk) (k z hz H locs ls hl hI)
theorem zl_astore_n (q : Nat) {n : Fin 4} {i : Nat} {v : Nat} (L2 : List (Nat × Value)) (X : ZX0 E own cc nL ret fr lo) (d : decode cc pc = .ok (.astore_n n, 1)) (hi : (n : Nat) = i) (hn : i < nL) (hL : (i, Value.ref v) :: L.filter (fun q => !(q.1 == i) && !(q.1 + 1 == i && q.2.category == 2)) = L2) (hq : pc + 1 = q) (k : ZL E I nL F cells slots q L2 st σ r) : ZL E I nL F cells slots pc L (.ref v :: st) σ r := by
  subst hq
  exact fun z hz H locs ls hl hI => lv_astore_n (zy_x X) (zy_c X) d hi hl hn hL (fun ls' hl' => k z hz H locs ls' hl' hI)
theorem zl_astore (q : Nat) {i : Nat} {v : Nat} (L2 : List (Nat × Value)) (X : ZX0 E own cc nL ret fr lo) (d : decode cc pc = .ok (.astore i, 2)) (hn : i < nL) (hL : (i, Value.ref v) :: L.filter (fun q => !(q.1 == i) && !(q.1 + 1 == i && q.2.category == 2)) = L2) (hq : pc + 2 = q) (k : ZL E I nL F cells slots q L2 st σ r) : ZL E I nL F cells slots pc L (.ref v :: st) σ r := by
  subst hq
  exact fun z hz H locs ls hl hI => lv_astore (zy_x X) (zy_c X) d hl hn hL (fun ls' hl' => k z hz H locs ls' hl' hI)
theorem zl_iinc (q p : Nat) {i : Nat} {n : Int} (c : Int32) {K : Int32 → Option ρ} (L2 : Int32 → List (Nat × Value)) (X : ZX0 E own cc nL ret fr lo) (d : decode cc pc = .ok (.iinc i n, 3)) (hc : Int32.ofInt n = c) (hk : L[p]? = some (i, .int x)) (hn : i < nL) (hL : ∀ v, (i, Value.int v) :: L.filter (fun q => !(q.1 == i) && !(q.1 + 1 == i && q.2.category == 2)) = L2 v) (hq : pc + 3 = q) (k : ∀ v : Int32, ZL E I nL F cells slots q (L2 v) st σ (K v)) : ZL E I nL F cells slots pc L st σ (zs_nm (x + c) K) := by
  subst hq
  exact fun z hz H locs ls hl hI => lv_iinc (zy_x X) (zy_c X) d hl hk (by rw [hc]) hn (hL _) (fun ls' hl' => k (x + c) z hz H locs ls' hl' hI)
theorem zl_iadd (q : Nat)  (X : ZX0 E own cc nL ret fr lo) (d : decode cc pc = .ok (.iadd, 1)) (hq : pc + 1 = q) (k : ZL E I nL F cells slots q L (.int (x + y) :: st) σ r) : ZL E I nL F cells slots pc L (.int y :: .int x :: st) σ r := by
  subst hq
  exact fun z hz H locs ls hl hI => lv_iadd (zy_x X) (zy_c X) d (k z hz H locs ls hl hI)
theorem zl_isub (q : Nat)  (X : ZX0 E own cc nL ret fr lo) (d : decode cc pc = .ok (.isub, 1)) (hq : pc + 1 = q) (k : ZL E I nL F cells slots q L (.int (x - y) :: st) σ r) : ZL E I nL F cells slots pc L (.int y :: .int x :: st) σ r := by
  subst hq
  exact fun z hz H locs ls hl hI => lv_isub (zy_x X) (zy_c X) d (k z hz H locs ls hl hI)
theorem zl_iand (q : Nat)  (X : ZX0 E own cc nL ret fr lo) (d : decode cc pc = .ok (.iand, 1)) (hq : pc + 1 = q) (k : ZL E I nL F cells slots q L (.int (x &&& y) :: st) σ r) : ZL E I nL F cells slots pc L (.int y :: .int x :: st) σ r := by
  subst hq
  exact fun z hz H locs ls hl hI => lv_iand (zy_x X) (zy_c X) d (k z hz H locs ls hl hI)
theorem zl_lcmp (q : Nat)  (X : ZX0 E own cc nL ret fr lo) (d : decode cc pc = .ok (.lcmp, 1)) (hq : pc + 1 = q) (k : ZL E I nL F cells slots q L (.int (lg_cmp a b) :: st) σ r) : ZL E I nL F cells slots pc L (.long b :: .long a :: st) σ r := by
  subst hq
  exact fun z hz H locs ls hl hI => W.lcmp (zy_x X) (zy_c X) d (k z hz H locs ls hl hI)
theorem zl_i2l (q : Nat)  (X : ZX0 E own cc nL ret fr lo) (d : decode cc pc = .ok (.i2l, 1)) (hq : pc + 1 = q) (k : ZL E I nL F cells slots q L (.long x.toInt64 :: st) σ r) : ZL E I nL F cells slots pc L (.int x :: st) σ r := by
  subst hq
  exact fun z hz H locs ls hl hI => lv_i2l (zy_x X) (zy_c X) d rfl (k z hz H locs ls hl hI)
theorem zl_goto (q : Nat) {off : Int} (X : ZX0 E own cc nL ret fr lo) (d : decode cc pc = .ok (.goto off, 3)) (hq : (pc : Int) + off = (q : Int)) (k : ZL E I nL F cells slots q L st σ r) : ZL E I nL F cells slots pc L st σ r :=
  fun z hz H locs ls hl hI => lv_goto (zy_x X) (zy_c X) d hq (k z hz H locs ls hl hI)
theorem zl_if_eq (q q3 : Nat) {off : Int} {_ : Decidable (x = 0)} (X : ZX0 E own cc nL ret fr lo) (d : decode cc pc = .ok (.ifCond .eq off, 3)) (hq : (pc : Int) + off = (q : Int)) (h3 : pc + 3 = q3) (k1 : x = 0 → ZL E I nL F cells slots q L st σ r1) (k2 : ¬ (x = 0) → ZL E I nL F cells slots q3 L st σ r2) : ZL E I nL F cells slots pc L (.int x :: st) σ (if x = 0 then r1 else r2) := by
  subst h3
  exact fun z hz H locs ls hl hI => lv_if_eq (zy_x X) (zy_c X) d hq (fun h => k1 h z (by rw [← hz, if_pos h]) H locs ls hl hI) (fun h => k2 h z (by rw [← hz, if_neg h]) H locs ls hl hI)
theorem zl_if_ne (q q3 : Nat) {off : Int} {_ : Decidable (x = 0)} (X : ZX0 E own cc nL ret fr lo) (d : decode cc pc = .ok (.ifCond .ne off, 3)) (hq : (pc : Int) + off = (q : Int)) (h3 : pc + 3 = q3) (k1 : x = 0 → ZL E I nL F cells slots q3 L st σ r1) (k2 : ¬ (x = 0) → ZL E I nL F cells slots q L st σ r2) : ZL E I nL F cells slots pc L (.int x :: st) σ (if x = 0 then r1 else r2) := by
  subst h3
  exact fun z hz H locs ls hl hI => lv_if_ne (zy_x X) (zy_c X) d hq (fun h => k2 h z (by rw [← hz, if_neg h]) H locs ls hl hI) (fun h => k1 h z (by rw [← hz, if_pos h]) H locs ls hl hI)
theorem zl_if_lt (q q3 : Nat) {off : Int} {_ : Decidable (x < 0)} (X : ZX0 E own cc nL ret fr lo) (d : decode cc pc = .ok (.ifCond .lt off, 3)) (hq : (pc : Int) + off = (q : Int)) (h3 : pc + 3 = q3) (k1 : x < 0 → ZL E I nL F cells slots q L st σ r1) (k2 : ¬ (x < 0) → ZL E I nL F cells slots q3 L st σ r2) : ZL E I nL F cells slots pc L (.int x :: st) σ (if x < 0 then r1 else r2) := by
  subst h3
  exact fun z hz H locs ls hl hI => lv_if_lt (zy_x X) (zy_c X) d hq (fun h => k1 h z (by rw [← hz, if_pos h]) H locs ls hl hI) (fun h => k2 h z (by rw [← hz, if_neg h]) H locs ls hl hI)
theorem zl_if_ge (q q3 : Nat) {off : Int} {_ : Decidable (0 ≤ x)} (X : ZX0 E own cc nL ret fr lo) (d : decode cc pc = .ok (.ifCond .ge off, 3)) (hq : (pc : Int) + off = (q : Int)) (h3 : pc + 3 = q3) (k1 : 0 ≤ x → ZL E I nL F cells slots q L st σ r1) (k2 : ¬ (0 ≤ x) → ZL E I nL F cells slots q3 L st σ r2) : ZL E I nL F cells slots pc L (.int x :: st) σ (if 0 ≤ x then r1 else r2) := by
  subst h3
  exact fun z hz H locs ls hl hI => lv_if_ge (zy_x X) (zy_c X) d hq (fun h => k1 h z (by rw [← hz, if_pos h]) H locs ls hl hI) (fun h => k2 h z (by rw [← hz, if_neg h]) H locs ls hl hI)
theorem zl_if_gt (q q3 : Nat) {off : Int} {_ : Decidable (0 < x)} (X : ZX0 E own cc nL ret fr lo) (d : decode cc pc = .ok (.ifCond .gt off, 3)) (hq : (pc : Int) + off = (q : Int)) (h3 : pc + 3 = q3) (k1 : 0 < x → ZL E I nL F cells slots q L st σ r1) (k2 : ¬ (0 < x) → ZL E I nL F cells slots q3 L st σ r2) : ZL E I nL F cells slots pc L (.int x :: st) σ (if 0 < x then r1 else r2) := by
  subst h3
  exact fun z hz H locs ls hl hI => lv_if_gt (zy_x X) (zy_c X) d hq (fun h => k1 h z (by rw [← hz, if_pos h]) H locs ls hl hI) (fun h => k2 h z (by rw [← hz, if_neg h]) H locs ls hl hI)
theorem zl_if_le (q q3 : Nat) {off : Int} {_ : Decidable (x ≤ 0)} (X : ZX0 E own cc nL ret fr lo) (d : decode cc pc = .ok (.ifCond .le off, 3)) (hq : (pc : Int) + off = (q : Int)) (h3 : pc + 3 = q3) (k1 : x ≤ 0 → ZL E I nL F cells slots q L st σ r1) (k2 : ¬ (x ≤ 0) → ZL E I nL F cells slots q3 L st σ r2) : ZL E I nL F cells slots pc L (.int x :: st) σ (if x ≤ 0 then r1 else r2) := by
  subst h3
  exact fun z hz H locs ls hl hI => lv_if_le (zy_x X) (zy_c X) d hq (fun h => k1 h z (by rw [← hz, if_pos h]) H locs ls hl hI) (fun h => k2 h z (by rw [← hz, if_neg h]) H locs ls hl hI)
theorem zl_icmp_eq (q q3 : Nat) {off : Int} {_ : Decidable (x = y)} (X : ZX0 E own cc nL ret fr lo) (d : decode cc pc = .ok (.if_icmp .eq off, 3)) (hq : (pc : Int) + off = (q : Int)) (h3 : pc + 3 = q3) (k1 : x = y → ZL E I nL F cells slots q L st σ r1) (k2 : ¬ (x = y) → ZL E I nL F cells slots q3 L st σ r2) : ZL E I nL F cells slots pc L (.int y :: .int x :: st) σ (if x = y then r1 else r2) := by
  subst h3
  exact fun z hz H locs ls hl hI => lv_icmp_eq (zy_x X) (zy_c X) d hq (fun h => k1 h z (by rw [← hz, if_pos h]) H locs ls hl hI) (fun h => k2 h z (by rw [← hz, if_neg h]) H locs ls hl hI)
theorem zl_icmp_ne (q q3 : Nat) {off : Int} {_ : Decidable (x = y)} (X : ZX0 E own cc nL ret fr lo) (d : decode cc pc = .ok (.if_icmp .ne off, 3)) (hq : (pc : Int) + off = (q : Int)) (h3 : pc + 3 = q3) (k1 : x = y → ZL E I nL F cells slots q3 L st σ r1) (k2 : ¬ (x = y) → ZL E I nL F cells slots q L st σ r2) : ZL E I nL F cells slots pc L (.int y :: .int x :: st) σ (if x = y then r1 else r2) := by
  subst h3
  exact fun z hz H locs ls hl hI => lv_icmp_ne (zy_x X) (zy_c X) d hq (fun h => k2 h z (by rw [← hz, if_neg h]) H locs ls hl hI) (fun h => k1 h z (by rw [← hz, if_pos h]) H locs ls hl hI)
theorem zl_icmp_lt (q q3 : Nat) {off : Int} {_ : Decidable (x < y)} (X : ZX0 E own cc nL ret fr lo) (d : decode cc pc = .ok (.if_icmp .lt off, 3)) (hq : (pc : Int) + off = (q : Int)) (h3 : pc + 3 = q3) (k1 : x < y → ZL E I nL F cells slots q L st σ r1) (k2 : ¬ (x < y) → ZL E I nL F cells slots q3 L st σ r2) : ZL E I nL F cells slots pc L (.int y :: .int x :: st) σ (if x < y then r1 else r2) := by
  subst h3
  exact fun z hz H locs ls hl hI => lv_icmp_lt (zy_x X) (zy_c X) d hq (fun h => k1 h z (by rw [← hz, if_pos h]) H locs ls hl hI) (fun h => k2 h z (by rw [← hz, if_neg h]) H locs ls hl hI)
theorem zl_icmp_ge (q q3 : Nat) {off : Int} {_ : Decidable (y ≤ x)} (X : ZX0 E own cc nL ret fr lo) (d : decode cc pc = .ok (.if_icmp .ge off, 3)) (hq : (pc : Int) + off = (q : Int)) (h3 : pc + 3 = q3) (k1 : y ≤ x → ZL E I nL F cells slots q L st σ r1) (k2 : ¬ (y ≤ x) → ZL E I nL F cells slots q3 L st σ r2) : ZL E I nL F cells slots pc L (.int y :: .int x :: st) σ (if y ≤ x then r1 else r2) := by
  subst h3
  exact fun z hz H locs ls hl hI => lv_icmp_ge (zy_x X) (zy_c X) d hq (fun h => k1 h z (by rw [← hz, if_pos h]) H locs ls hl hI) (fun h => k2 h z (by rw [← hz, if_neg h]) H locs ls hl hI)
theorem zl_icmp_gt (q q3 : Nat) {off : Int} {_ : Decidable (y < x)} (X : ZX0 E own cc nL ret fr lo) (d : decode cc pc = .ok (.if_icmp .gt off, 3)) (hq : (pc : Int) + off = (q : Int)) (h3 : pc + 3 = q3) (k1 : y < x → ZL E I nL F cells slots q L st σ r1) (k2 : ¬ (y < x) → ZL E I nL F cells slots q3 L st σ r2) : ZL E I nL F cells slots pc L (.int y :: .int x :: st) σ (if y < x then r1 else r2) := by
  subst h3
  exact fun z hz H locs ls hl hI => lv_icmp_gt (zy_x X) (zy_c X) d hq (fun h => k1 h z (by rw [← hz, if_pos h]) H locs ls hl hI) (fun h => k2 h z (by rw [← hz, if_neg h]) H locs ls hl hI)
theorem zl_icmp_le (q q3 : Nat) {off : Int} {_ : Decidable (x ≤ y)} (X : ZX0 E own cc nL ret fr lo) (d : decode cc pc = .ok (.if_icmp .le off, 3)) (hq : (pc : Int) + off = (q : Int)) (h3 : pc + 3 = q3) (k1 : x ≤ y → ZL E I nL F cells slots q L st σ r1) (k2 : ¬ (x ≤ y) → ZL E I nL F cells slots q3 L st σ r2) : ZL E I nL F cells slots pc L (.int y :: .int x :: st) σ (if x ≤ y then r1 else r2) := by
  subst h3
  exact fun z hz H locs ls hl hI => lv_icmp_le (zy_x X) (zy_c X) d hq (fun h => k1 h z (by rw [← hz, if_pos h]) H locs ls hl hI) (fun h => k2 h z (by rw [← hz, if_neg h]) H locs ls hl hI)
theorem zl_tcase (q : Nat) {n : Int32} {off df lo1 hi1 : Int} {offs : Array Int} {len : Nat} {_ : Decidable (x = n)} (X : ZX0 E own cc nL ret fr lo) (d : decode cc pc = .ok (.tableswitch df lo1 hi1 offs, len)) (h1 : ¬ n.toInt < lo1) (h2 : ¬ hi1 < n.toInt) (ho : offs[(n.toInt - lo1).toNat]? = some off) (hq : (pc : Int) + off = (q : Int)) (k1 : x = n → ZL E I nL F cells slots q L st σ r1) (k2 : ¬ x = n → ZL E I nL F cells slots pc L (.int x :: st) σ r2) : ZL E I nL F cells slots pc L (.int x :: st) σ (if x = n then r1 else r2) := by
  intro z hz H locs ls hl hI
  by_cases h : x = n
  · rw [if_pos h] at hz
    have hk := k1 h z hz H locs ls hl hI
    subst h
    exact lv_tableIn (zy_x X) (zy_c X) d h1 h2 ho hq hk
  · rw [if_neg h] at hz
    exact k2 h z hz H locs ls hl hI
theorem zl_tdef (q : Nat) {df lo1 hi1 : Int} {offs : Array Int} {len : Nat} (X : ZX0 E own cc nL ret fr lo) (d : decode cc pc = .ok (.tableswitch df lo1 hi1 offs, len)) (h : x.toInt < lo1 ∨ hi1 < x.toInt) (hq : (pc : Int) + df = (q : Int)) (k : ZL E I nL F cells slots q L st σ r) : ZL E I nL F cells slots pc L (.int x :: st) σ r :=
  fun z hz H locs ls hl hI => lv_tableOut (zy_x X) (zy_c X) d h hq (k z hz H locs ls hl hI)
end ZLR
/-- a call of an instance's method that may throw, under one handler of the exception's class -/
theorem zt_callV {p : Program} {l : Launch} {e : Env} {R : Room} {s : State} {m : MethodId} {args : Array Value} {below : List Frame} {meth : Method} {c : Code} {H : Heap} {locs : List Loc} {cells slots : Nat} {Q : State → Prop} {pc : Nat} {ls : Array Slot} {st : List Value} {A0 : Nat → Prop} {H0 : Heap}
    {own : String} {cc : ByteArray} {nL index maxL fr lo sz b q0 ci N a0 a1 hpc ct : Nat} {y : MethodName} {bytes : ByteArray} {ret : Option FieldType} {V : ZV} {σ : ZS} {As rest fs : List Value} {T : u_T} {z : Option Int32 × ZS}
    (hexec : p.tables.exec = Jvm.exec) (hb : c.code = cc) (hml : c.maxLocals = nL) (hown : s.vm.findClass own = some m.cls) (ht : ∀ w ∈ zw_w, w.before args s = true) (hN : zw_N s)
    (hC : zCV own index y bytes maxL ret As.length) (hfr : fr + 1 ≤ R.frames) (hlo : 8 + (maxL + 11) + lo ≤ R.locals) (hcl : cells + 1 ≤ R.cells) (hsl : slots + 6 ≤ R.slots)
    (hM : zMt l y bytes maxL ret fr lo V σ sz (.ref b :: As) z) (hV : ZVok V) (hK : va_K V.2.1 V.2.2.1 V.2.2.2.1 s) (hP : va_P V.2.1 V.2.2.1 (V.1 σ) H) (hsz : H.size = sz) (hT : V.2.2.2.2.2 V.2.2.2.2.1 s H) (hS : ∀ U : State, U.heap = H → s.WarmedH U.vm → zt_S U)
    (he : (V.1 σ)[q0]? = some (b, .inr (ci, fs))) (hc : V.2.2.1[ci]? = some (y.cls, T, N)) (hst : st = As.reverse ++ .ref b :: rest) (hr : (rest.map fun v => v.category).sum ≤ 8) (hls : ls.size = nL) (hd : decode cc pc = .ok (.invokevirtual index, 3))
    (hS0 : va_S A0 H0 H locs) (hA : ∀ q, zA V sz q → A0 q)
    (hex : c.exceptionTable.toList.map (fun h => (h.startPc, h.endPc, h.handlerPc, h.catchType)) = [(a0, a1, hpc, ct)]) (hcov : a0 ≤ pc ∧ pc < a1) (hct : ct ≠ 0) (hlink : Cond.classLink own ct "java/lang/IllegalArgumentException" ∈ lw_tbl)
    (kr : ∀ v : Int32, z.1 = some v → ∀ (H1 : Heap) (locs1 : List Loc), va_P V.2.1 V.2.2.1 (V.1 z.2) H1 → H.size ≤ H1.size → (∀ q : Nat, q < H.size → ¬ zA V sz q → H1[q]? = H[q]?) → va_S A0 H0 H1 locs1 → W p l e R s m args below meth c H1 locs1 (cells + 1) (slots + 6) Q (F0 m (pc + 3) ls (.int v :: rest)))
    (kt : z.1 = none → ∀ (ad : Nat) (H1 : Heap) (locs1 : List Loc), va_P V.2.1 V.2.2.1 (V.1 z.2) H1 → H.size ≤ H1.size → (∀ q : Nat, q < H.size → ¬ zA V sz q → H1[q]? = H[q]?) → va_S A0 H0 H1 locs1 → W p l e R s m args below meth c H1 locs1 (cells + 1) (slots + 6) Q (F0 m hpc ls [.ref ad])) :
    W p l e R s m args below meth c H locs cells slots Q (F0 m pc ls st) := by
  intro T0 hT0 X
  obtain ⟨⟨w1, w2, w3, w4, w5⟩, hy1, hy2, hy3⟩ := hC
  have g1 := ht _ (zw_in w1 rfl)
  have g2 := ht _ (zw_in w2 rfl)
  have g3 := ht _ (zw_in w3 rfl)
  have g5 := ht _ (zw_in w5 rfl)
  obtain ⟨mk, methM, hnamed, hmethM, hstM, habM⟩ := Cond.instanceMethod_spec g2
  obtain ⟨methM', cM, hmethM', -, -, -, -, -, -, hsigM⟩ := Cond.code_spec hnamed g5
  cases hmethM.symm.trans hmethM'
  obtain ⟨cell, hcell, hobj, hcls⟩ := va_recv hK hP hc he
  obtain ⟨c2, r2, m2, q1, q2, q3, q4, kP, hkP, hkPi⟩ := Cond.selects_spec g3
  cases hcls.symm.trans q1
  cases (State.methodFound?_of_named hnamed ⟨hy1, hy2⟩).symm.trans q2
  cases hnamed.symm.trans q3
  have hselP : selectMethod e.platform s.vm cell.cls mk = .method mk := by rw [Launch.admits_selectMethod X.admits]; exact q4
  have hlen : As.length = methM.sig.parameters.length := by
    rw [hsigM] at hy3
    exact (Option.some.inj hy3).symm
  obtain ⟨vm₁, X₁, hstep₁⟩ := X.invokevirtual hexec hown g1 hnamed hmethM hstM hkP hkPi ⟨hy1, hy2⟩ (a := b) (cell := cell) (by rw [hT0]; exact hcell)
    (fun z h => by rw [h] at hobj; cases hobj) hselP hmethM habM hkP hkPi (g := F0 m pc ls st) rfl (argsL := As) (rest := rest) hlen hst (by rw [hb]; exact hd)
  have hw := pay_in ht (zg_tail w5)
  have hi : (Cond.initialized y.cls).before (Value.ref b :: As).toArray (T0.setVm vm₁) = true := pay_in ht (zg_tail w5) _ (List.mem_cons_of_mem _ (zw_in w4 rfl)) _ _ X₁.warmed
  have hpre : zPt V σ sz (.ref b :: As) (Value.ref b :: As).toArray ((T0.setVm vm₁).calling (F0 m pc ls rest) mk (Value.ref b :: As).toArray) := by
    have hh : ((T0.setVm vm₁).calling (F0 m pc ls rest) mk (Value.ref b :: As).toArray).heap = H := hT0
    refine ⟨rfl, by rw [hh]; exact hsz, by rw [hh]; exact hP, va_K.moved X₁.warmed.alike hK, ?_, zw_N.warm X₁.warmed hN, hS _ hh X₁.warmed⟩
    rw [hh]
    exact hV.2.1 _ s _ H H X₁.warmed.alike (fun _ _ _ => rfl) hT
  obtain ⟨o, t, B, L, hq, e1, e2, hB, hL, hgo⟩ := zt_go X₁ (g := F0 m pc ls rest) rfl (hls.trans hml.symm) (by rw [hb]; exact hd) (lv_room hr) (X₁.named hnamed) hM (fun w h => hw w h _ _ X₁.warmed) hi hfr hlo hcl hsl hpre
  have hh : ((T0.setVm vm₁).calling (F0 m pc ls rest) mk (Value.ref b :: As).toArray).heap = H := hT0
  obtain ⟨ho, hP1, ⟨hz1, hk1⟩, hW1, -⟩ := hq
  rw [hh] at hz1 hk1
  have hS1 : va_S A0 H0 t.heap (locs ++ L) := ⟨Nat.le_trans hS0.1 hz1, fun q h1 h2 => by rw [hk1 q (Nat.lt_of_lt_of_le h1 hS0.1) (fun z => h2 (hA q z))]; exact hS0.2.1 q h1 h2, fun q hq => by
    rcases List.mem_append.mp hq with h | h
    · exact hS0.2.2 q h
    · exact hA _ (hL q h)⟩
  rcases hgo with ⟨v, rfl, hsteps⟩ | ⟨ad, rfl, hsteps⟩
  · rcases ho with ⟨v', hv, ho⟩ | ⟨-, a, ce, ho, -⟩
    · cases ho
      obtain ⟨t2, a1', b1⟩ := kr v' hv t.heap (locs ++ L) hP1 hz1 hk1 hS1 B e1 hB
      exact ⟨t2, hstep₁ _ fun acts => by rw [doInvoke_state]; exact hsteps.trans a1', b1⟩
    · cases ho
  · rcases ho with ⟨v', hv, ho⟩ | ⟨hn, a, ce, ho, hsa, hce, hcv, hcf, hca⟩
    · cases ho
    · cases ho
      have hpl : e.platform.magicAccessors = ({} : Platform).magicAccessors := by rw [X.admits.platform]
      obtain ⟨cX, hfX, hclk⟩ := Cond.classLink_spec hown (ht _ (zw_in hlink rfl)) e.platform hpl
      obtain ⟨hg2, hwarm2, -⟩ := State.classEntry (e := e) hB.warmed hclk
      have hcX : ce.cls = cX := by
        have h1 : s.vm.findClass "java/lang/IllegalArgumentException" = some ce.cls := by rw [← X₁.warmed.alike.findClass]; exact hcf
        exact Option.some.inj (h1.symm.trans hfX)
      obtain ⟨xx, hxl, hx1, hx2, hx3, hx4⟩ : ∃ xx, c.exceptionTable.toList = [xx] ∧ xx.startPc = a0 ∧ xx.endPc = a1 ∧ xx.handlerPc = hpc ∧ xx.catchType = ct := by
        cases hl : c.exceptionTable.toList with
        | nil => rw [hl] at hex; cases hex
        | cons xx r =>
          rw [hl] at hex
          cases r with
          | nil =>
            simp only [List.map_cons, List.map_nil, List.cons.injEq, Prod.mk.injEq, and_true] at hex
            exact ⟨xx, rfl, hex.1, hex.2.1, hex.2.2.1, hex.2.2.2⟩
          | cons y r => simp at hex
      have hasg : s.vm.assignable ce.cls ce.cls = true := by rw [← X₁.warmed.alike.assignable]; exact hca
      have hsz2 : (B.vm.noted m.cls ct (.cls cX)).classes.size ≤ B.vm.classes.size := by no_record
      generalize B.vm.noted m.cls ct (.cls cX) = vm2 at hg2 hwarm2 hsz2
      obtain ⟨kX, hkX⟩ := Vm.classAt_of_findClass hfX
      obtain ⟨kX2, hkX2, -⟩ := hwarm2.alike.2.2 _ _ hkX
      have hfind : zt_Finds e ((B.setTop (F0 m pc ls rest)).pushFrame (.throwing ad)) (((B.setTop (F0 m pc ls rest)).pushFrame (.throwing ad)).setVm vm2) (F0 m pc ls rest) ad (.found xx.handlerPc) :=
        zt_catchCold (meth := meth) (code := c) (by rw [Stand.throwing_vm]; exact hB.method') hB.code xx hxl (by simp only [covers, hx1, hx2]; simpa using hcov) (by rw [hx4]; exact hct) (c := cX) (vm' := vm2)
          (by rw [Stand.throwing_vm, hx4]; exact hg2) (by rw [Stand.throwing_vm]; exact hsz2) (cell := ce) (by rw [Stand.throwing_heap, e1]; exact hce) (fun k h => by rw [hcv] at h; cases h) ⟨kX2, by rw [hcX]; exact hkX2⟩ ⟨kX2, hkX2⟩ (by rw [← hcX, hwarm2.alike.assignable]; exact hasg)
      obtain ⟨t2, a1', b1⟩ := kt hn ad t.heap (locs ++ L) hP1 hz1 hk1 hS1 (B.setVm vm2) e1 (hB.noted hwarm2)
      rw [hx3] at hfind
      exact ⟨t2, hstep₁ _ fun acts => by rw [doInvoke_state]; exact hsteps.trans (zt_caught (s := B) (g := F0 m pc ls rest) hB.here hfind a1'), b1⟩
