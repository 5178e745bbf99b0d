/-! My judgement of a method's walk: a pure function (Option-valued) on one side, the machine on the other. -/
abbrev ZS : Type := Nat → Nat → Int32
def zs_up (s : ZS) (i j : Nat) (v : Int32) : ZS := fun a b => if a = i then (if b = j then v else s a b) else s a b
def zs_nm {α : Type} {β : Type} (x : α) (K : α → β) : β := K x
def zo_shl (x y : Int32) : Int32 := x <<< (y &&& 31)
def zo_shr (x y : Int32) : Int32 := x >>> (y &&& 31)
def zo_ushr (x y : Int32) : Int32 := (x.toUInt32 >>> (y.toUInt32 &&& Int32.toUInt32 31)).toInt32
def zo_irem (x y : Int32) : Int32 := x - x / y * y
def zo_idiv (x y : Int32) : Int32 := x / y
def zo_lshl (x : Int64) (y : Int32) : Int64 := x <<< (y.toInt64 &&& 63)
def zo_lshr (x : Int64) (y : Int32) : Int64 := x >>> (y.toInt64 &&& 63)
def zo_lushr (x : Int64) (y : Int32) : Int64 := (x.toUInt64 >>> (y.toInt64.toUInt64 &&& Int64.toUInt64 63)).toInt64
def zo_lrem (x y : Int64) : Int64 := x - x / y * y
def zo_ldiv (x y : Int64) : Int64 := x / y
/-- the words of the tables that stay when the machine grows warm; those of nest mates apart -/
def zw_w : List Cond := lw_tbl.filter goodWord
def zw_isN : Cond → Bool
  | .fieldLinkNest _ _ _ _ _ _ => true
  | .methodLinkNest _ _ _ _ => true
  | _ => false
def zw_n : List Cond := lw_tbl.filter zw_isN
theorem zw_in {w : Cond} (h : w ∈ lw_tbl) (g : goodWord w = true) : w ∈ zw_w := List.mem_filter.mpr ⟨h, g⟩
theorem zw_inN {w : Cond} (h : w ∈ lw_tbl) (g : zw_isN w = true) : w ∈ zw_n := List.mem_filter.mpr ⟨h, g⟩
theorem zw_good {w : Cond} (h : w ∈ zw_w) : (w.onTables && w.keeps) = true ∨ ∃ ty, w = .arrayClass ty := good_of_word (List.mem_filter.mp h).2
def zw_N (U : State) : Prop := ∀ w ∈ zw_n, va_Nw w U
theorem zw_N.warm {s U : State} (hW : s.WarmedH U.vm) (h : zw_N s) : zw_N U := by
  intro w hw
  have h1 := h w hw
  have h2 := (List.mem_filter.mp hw).2
  cases w <;> first | exact va_Nw.warmF hW h1 | exact va_Nw.warmM hW h1 | cases h2
theorem zw_N.same {u U : State} (e : u.vm = U.vm) (h : zw_N u) : zw_N U := by
  intro w hw
  have h1 := h w hw
  have h2 := (List.mem_filter.mp hw).2
  cases w <;> first | exact va_Nw.same rfl e h1 | cases h2
/-- the machine's own part of a walk; a world: its cells by the state, classes, arrays, its addresses, its static facts -/
abbrev ZE : Type := Program × Launch × Env × Room × State × MethodId × Array Value × List Frame × Method × Code
abbrev ZV : Type := (ZS → va_W) × va_G × List vw_C × List (ClassId × FieldType) × (Nat → Prop) × ((Nat → Prop) → State → Heap → Prop)
def ZVok (V : ZV) : Prop := (∀ σ, va_D V.2.2.2.2.1 (V.1 σ)) ∧ (∀ (A : Nat → Prop) (u U : State) (H H1 : Heap), u.vm.Alike U.vm → (∀ q : Nat, q < H.size → ¬ A q → H1[q]? = H[q]?) → V.2.2.2.2.2 A u H → V.2.2.2.2.2 A U H1) ∧ ∀ (A B : Nat → Prop) (U : State) (H : Heap), (∀ q, B q → A q) → V.2.2.2.2.2 A U H → V.2.2.2.2.2 B U H
def ZX (E : ZE) (V : ZV) (A : Nat → Prop) (own : String) (cc : ByteArray) (nL : Nat) (ret : Option FieldType) (fr lo : Nat) : Prop :=
  E.1.tables.exec = Jvm.exec ∧ E.2.2.2.2.2.2.2.2.2.code = cc ∧ E.2.2.2.2.2.2.2.2.2.maxLocals = nL ∧ E.2.2.2.2.1.vm.findClass own = some E.2.2.2.2.2.1.cls ∧ (∀ w ∈ zw_w, w.before E.2.2.2.2.2.2.1 E.2.2.2.2.1 = true) ∧
  va_K V.2.1 V.2.2.1 V.2.2.2.1 E.2.2.2.2.1 ∧ E.2.2.2.2.2.2.2.2.1.sig.returnType = ret ∧ E.2.2.2.2.2.2.2.2.1.locks = false ∧ ZVok V ∧ (∀ q, V.2.2.2.2.1 q → A q) ∧ V.2.2.2.2.2 A E.2.2.2.2.1 E.2.2.2.2.1.heap ∧ fr ≤ E.2.2.2.1.frames ∧ lo ≤ E.2.2.2.1.locals ∧ zw_N E.2.2.2.2.1
def ZJ {ρ : Type} (E : ZE) (V : ZV) (A : Nat → Prop) (nL : Nat) (F : ρ → State → Prop) (pc : Nat) (L : List (Nat × Value)) (st : List Value) (σ : ZS) (r : Option ρ) : Prop :=
  ∀ z : ρ, r = some z → ∀ (H : Heap) (locs : List Loc) (ls : Array Slot), lv_has ls nL L → va_P V.2.1 V.2.2.1 (V.1 σ) H → va_S A E.2.2.2.2.1.heap H locs →
    W E.1 E.2.1 E.2.2.1 E.2.2.2.1 E.2.2.2.2.1 E.2.2.2.2.2.1 E.2.2.2.2.2.2.1 E.2.2.2.2.2.2.2.1 E.2.2.2.2.2.2.2.2.1 E.2.2.2.2.2.2.2.2.2 H locs 0 0 (F z) (F0 E.2.2.2.2.2.1 pc ls st)
section ZR
variable {ρ : Type} {E : ZE} {V : ZV} {A : Nat → Prop} {own : String} {cc : ByteArray} {nL : Nat} {ret : Option FieldType} {fr lo : Nat} {F : ρ → State → Prop} {pc : Nat} {L L2 : List (Nat × Value)} {st : List Value} {σ : ZS} {r r1 r2 : Option ρ} {x y : Int32} {a b : Int64}
theorem zx_x (X : ZX E V A own cc nL ret fr lo) : E.1.tables.exec = Jvm.exec := X.1
theorem zx_c (X : ZX E V A own cc nL ret fr lo) : E.2.2.2.2.2.2.2.2.2.code = cc := X.2.1
theorem zx_m (X : ZX E V A own cc nL ret fr lo) : E.2.2.2.2.2.2.2.2.2.maxLocals = nL := X.2.2.1
theorem zx_o (X : ZX E V A own cc nL ret fr lo) : E.2.2.2.2.1.vm.findClass own = some E.2.2.2.2.2.1.cls := X.2.2.2.1
theorem zx_t (X : ZX E V A own cc nL ret fr lo) : ∀ w ∈ zw_w, w.before E.2.2.2.2.2.2.1 E.2.2.2.2.1 = true := X.2.2.2.2.1
theorem zx_k (X : ZX E V A own cc nL ret fr lo) : va_K V.2.1 V.2.2.1 V.2.2.2.1 E.2.2.2.2.1 := X.2.2.2.2.2.1
theorem zx_r (X : ZX E V A own cc nL ret fr lo) : E.2.2.2.2.2.2.2.2.1.sig.returnType = ret := X.2.2.2.2.2.2.1
theorem zx_l (X : ZX E V A own cc nL ret fr lo) : E.2.2.2.2.2.2.2.2.1.locks = false := X.2.2.2.2.2.2.2.1
theorem zx_v (X : ZX E V A own cc nL ret fr lo) : ZVok V := X.2.2.2.2.2.2.2.2.1
theorem zx_a (X : ZX E V A own cc nL ret fr lo) : ∀ q, V.2.2.2.2.1 q → A q := X.2.2.2.2.2.2.2.2.2.1
theorem zx_s (X : ZX E V A own cc nL ret fr lo) : V.2.2.2.2.2 A E.2.2.2.2.1 E.2.2.2.2.1.heap := X.2.2.2.2.2.2.2.2.2.2.1
theorem zx_f (X : ZX E V A own cc nL ret fr lo) : fr ≤ E.2.2.2.1.frames := X.2.2.2.2.2.2.2.2.2.2.2.1
theorem zx_w (X : ZX E V A own cc nL ret fr lo) : lo ≤ E.2.2.2.1.locals := X.2.2.2.2.2.2.2.2.2.2.2.2.1
theorem zx_n (X : ZX E V A own cc nL ret fr lo) : zw_N E.2.2.2.2.1 := X.2.2.2.2.2.2.2.2.2.2.2.2.2
theorem zx_d (X : ZX E V A own cc nL ret fr lo) (σ : ZS) : va_D A (V.1 σ) := ((zx_v X).1 σ).weaken (fun _ q _ h => zx_a X q.1 h)
theorem zx_g (X : ZX E V A own cc nL ret fr lo) {w : Cond} (h : w ∈ lw_tbl) (g : goodWord w = true) : w.before E.2.2.2.2.2.2.1 E.2.2.2.2.1 = true := zx_t X w (zw_in h g)
theorem zx_gN (X : ZX E V A own cc nL ret fr lo) {w : Cond} (h : w ∈ lw_tbl) (g : zw_isN w = true) (ho : w.onTables = true) : w.before E.2.2.2.2.2.2.1 E.2.2.2.2.1 = true := va_Nw.use ho (zx_n X w (zw_inN h g))
theorem zj_none : ZJ E V A nL F pc L st σ none := fun _ hz => by cases hz
theorem zj_ng {c : Prop} {_ : Decidable c} (k : ¬ c → ZJ E V A nL F pc L st σ r) : ZJ E V A nL F pc L st σ (if c then none else r) := by
  intro z hz
  by_cases h : c
  · rw [if_pos h] at hz; cases hz
  · rw [if_neg h] at hz; exact k h z hz
theorem zj_nmi {K : Int32 → Option ρ} (k : ∀ v : Int32, ZJ E V A nL F pc L (.int v :: st) σ (K v)) : ZJ E V A nL F pc L (.int x :: st) σ (zs_nm x K) := k x
theorem zj_nml {K : Int64 → Option ρ} (k : ∀ v : Int64, ZJ E V A nL F pc L (.long v :: st) σ (K v)) : ZJ E V A nL F pc L (.long a :: st) σ (zs_nm a K) := k a
theorem zj_nms {K : ZS → Option ρ} (k : ∀ s : ZS, ZJ E V A nL F pc L st s (K s)) : ZJ E V A nL F pc L st σ (zs_nm σ K) := k σ
theorem zj_loc (ks : List Nat) (hL : lv_pick L ks = L2) (k : ZJ E V A nL F pc L2 st σ r) : ZJ E V A nL F pc L st σ r :=
  fun z hz H locs ls hl hP hS => k z hz H locs ls (lv_sub hl ks hL) hP hS
theorem zj_iconst (q : Nat) {n : Int} (v : Int32) (X : ZX E V A own cc nL ret fr lo) (d : decode cc pc = .ok (.iconst n, 1)) (hv : Int32.ofInt n = v) (hq : pc + 1 = q) (k : ZJ E V A nL F q L (.int v :: st) σ r) : ZJ E V A nL F pc L (st) σ r := by
  subst hq
  exact fun z hz H locs ls hl hP hS => lv_iconst (zx_x X) (zx_c X) d hv (k z hz H locs ls hl hP hS)
theorem zj_bipush (q : Nat) {n : Int} (v : Int32) (X : ZX E V A own cc nL ret fr lo) (d : decode cc pc = .ok (.bipush n, 2)) (hv : (Int8.ofInt n).toInt32 = v) (hq : pc + 2 = q) (k : ZJ E V A nL F q L (.int v :: st) σ r) : ZJ E V A nL F pc L (st) σ r := by
  subst hq
  exact fun z hz H locs ls hl hP hS => lv_bipush (zx_x X) (zx_c X) d hv (k z hz H locs ls hl hP hS)
theorem zj_sipush (q : Nat) {n : Int} (v : Int32) (X : ZX E V A own cc nL ret fr lo) (d : decode cc pc = .ok (.sipush n, 3)) (hv : (Int16.ofInt n).toInt32 = v) (hq : pc + 3 = q) (k : ZJ E V A nL F q L (.int v :: st) σ r) : ZJ E V A nL F pc L (st) σ r := by
  subst hq
  exact fun z hz H locs ls hl hP hS => lv_sipush (zx_x X) (zx_c X) d hv (k z hz H locs ls hl hP hS)
theorem zj_lconst (q : Nat) {n : Fin 2} (v : Int64) (X : ZX E V A own cc nL ret fr lo) (d : decode cc pc = .ok (.lconst n, 1)) (hv : Int64.ofNat (n : Nat) = v) (hq : pc + 1 = q) (k : ZJ E V A nL F q L (.long v :: st) σ r) : ZJ E V A nL F pc L (st) σ r := by
  subst hq
  exact fun z hz H locs ls hl hP hS => lv_lconst (zx_x X) (zx_c X) d hv (k z hz H locs ls hl hP hS)
theorem zj_ldc (q : Nat) {index : Nat} (v : Int32) (X : ZX E V A own cc nL ret fr lo) (d : decode cc pc = .ok (.ldc index, 2)) (hw : Cond.constant own index v ∈ lw_tbl) (hq : pc + 2 = q) (k : ZJ E V A nL F q L (.int v :: st) σ r) : ZJ E V A nL F pc L (st) σ r := by
  subst hq
  exact fun z hz H locs ls hl hP hS => lv_ldc (zx_x X) (zx_c X) (zx_o X) (zx_g X hw rfl) d (k z hz H locs ls hl hP hS)
theorem zj_ldc_w (q : Nat) {index : Nat} (v : Int32) (X : ZX E V A own cc nL ret fr lo) (d : decode cc pc = .ok (.ldc_w index, 3)) (hw : Cond.constant own index v ∈ lw_tbl) (hq : pc + 3 = q) (k : ZJ E V A nL F q L (.int v :: st) σ r) : ZJ E V A nL F pc L (st) σ r := by
  subst hq
  exact fun z hz H locs ls hl hP hS => lv_ldcw (zx_x X) (zx_c X) (zx_o X) (zx_g X hw rfl) d (k z hz H locs ls hl hP hS)
theorem zj_ldc2 (q : Nat) {index : Nat} (v : Int64) (X : ZX E V A own cc nL ret fr lo) (d : decode cc pc = .ok (.ldc2_w index, 3)) (hw : Cond.constantLong own index v ∈ lw_tbl) (hq : pc + 3 = q) (k : ZJ E V A nL F q L (.long v :: st) σ r) : ZJ E V A nL F pc L (st) σ r := by
  subst hq
  exact fun z hz H locs ls hl hP hS => lv_ldc2 (zx_x X) (zx_c X) (zx_o X) (zx_g X hw rfl) d (k z hz H locs ls hl hP hS)
theorem zj_iload_n (q : Nat) (p : Nat) {n : Fin 4} {i : Nat} {v : Int32} (X : ZX E V A own cc nL ret fr lo) (d : decode cc pc = .ok (.iload_n n, 1)) (hi : (n : Nat) = i) (hk : L[p]? = some (i, .int v)) (hq : pc + 1 = q) (k : ZJ E V A nL F q L (.int v :: st) σ r) : ZJ E V A nL F pc L (st) σ r := by
  subst hq
  exact fun z hz H locs ls hl hP hS => lv_iload_n (zx_x X) (zx_c X) d hi (lv_at hl p hk) (k z hz H locs ls hl hP hS)
theorem zj_iload (q : Nat) (p : Nat) {i : Nat} {v : Int32} (X : ZX E V A own cc nL ret fr lo) (d : decode cc pc = .ok (.iload i, 2)) (hk : L[p]? = some (i, .int v)) (hq : pc + 2 = q) (k : ZJ E V A nL F q L (.int v :: st) σ r) : ZJ E V A nL F pc L (st) σ r := by
  subst hq
  exact fun z hz H locs ls hl hP hS => lv_iload (zx_x X) (zx_c X) d (lv_at hl p hk) (k z hz H locs ls hl hP hS)
theorem zj_istore_n (q : Nat) {n : Fin 4} {i : Nat} {v : Int32} (L2 : List (Nat × Value)) (X : ZX E V A own cc nL ret fr lo) (d : decode cc pc = .ok (.istore_n n, 1)) (hi : (n : Nat) = i) (hn : i < nL) (hL : (i, Value.int v) :: L.filter (fun q => !(q.1 == i) && !(q.1 + 1 == i && q.2.category == 2)) = L2) (hq : pc + 1 = q) (k : ZJ E V A nL F q L2 st σ r) : ZJ E V A nL F pc L (.int v :: st) σ r := by
  subst hq
  exact fun z hz H locs ls hl hP hS => lv_istore_n (zx_x X) (zx_c X) d hi hl hn hL (fun ls' hl' => k z hz H locs ls' hl' hP hS)
theorem zj_istore (q : Nat) {i : Nat} {v : Int32} (L2 : List (Nat × Value)) (X : ZX E V A own cc nL ret fr lo) (d : decode cc pc = .ok (.istore i, 2)) (hn : i < nL) (hL : (i, Value.int v) :: L.filter (fun q => !(q.1 == i) && !(q.1 + 1 == i && q.2.category == 2)) = L2) (hq : pc + 2 = q) (k : ZJ E V A nL F q L2 st σ r) : ZJ E V A nL F pc L (.int v :: st) σ r := by
  subst hq
  exact fun z hz H locs ls hl hP hS => lv_istore (zx_x X) (zx_c X) d hl hn hL (fun ls' hl' => k z hz H locs ls' hl' hP hS)
theorem zj_lload_n (q : Nat) (p : Nat) {n : Fin 4} {i : Nat} {v : Int64} (X : ZX E V A own cc nL ret fr lo) (d : decode cc pc = .ok (.lload_n n, 1)) (hi : (n : Nat) = i) (hk : L[p]? = some (i, .long v)) (hq : pc + 1 = q) (k : ZJ E V A nL F q L (.long v :: st) σ r) : ZJ E V A nL F pc L (st) σ r := by
  subst hq
  exact fun z hz H locs ls hl hP hS => lv_lload_n (zx_x X) (zx_c X) d hi (lv_at hl p hk) (k z hz H locs ls hl hP hS)
theorem zj_lload (q : Nat) (p : Nat) {i : Nat} {v : Int64} (X : ZX E V A own cc nL ret fr lo) (d : decode cc pc = .ok (.lload i, 2)) (hk : L[p]? = some (i, .long v)) (hq : pc + 2 = q) (k : ZJ E V A nL F q L (.long v :: st) σ r) : ZJ E V A nL F pc L (st) σ r := by
  subst hq
  exact fun z hz H locs ls hl hP hS => lv_lload (zx_x X) (zx_c X) d (lv_at hl p hk) (k z hz H locs ls hl hP hS)
theorem zj_lstore_n (q : Nat) {n : Fin 4} {i : Nat} {v : Int64} (L2 : List (Nat × Value)) (X : ZX E V A own cc nL ret fr lo) (d : decode cc pc = .ok (.lstore_n n, 1)) (hi : (n : Nat) = i) (hn : i + 1 < nL) (hL : (i, Value.long v) :: L.filter (fun q => !(q.1 == i) && (!(q.1 == i + 1) && !(q.1 + 1 == i && q.2.category == 2))) = L2) (hq : pc + 1 = q) (k : ZJ E V A nL F q L2 st σ r) : ZJ E V A nL F pc L (.long v :: st) σ r := by
  subst hq
  exact fun z hz H locs ls hl hP hS => lv_lstore_n (zx_x X) (zx_c X) d hi hl hn hL (fun ls' hl' => k z hz H locs ls' hl' hP hS)
theorem zj_lstore (q : Nat) {i : Nat} {v : Int64} (L2 : List (Nat × Value)) (X : ZX E V A own cc nL ret fr lo) (d : decode cc pc = .ok (.lstore i, 2)) (hn : i + 1 < nL) (hL : (i, Value.long v) :: L.filter (fun q => !(q.1 == i) && (!(q.1 == i + 1) && !(q.1 + 1 == i && q.2.category == 2))) = L2) (hq : pc + 2 = q) (k : ZJ E V A nL F q L2 st σ r) : ZJ E V A nL F pc L (.long v :: st) σ r := by
  subst hq
  exact fun z hz H locs ls hl hP hS => lv_lstore (zx_x X) (zx_c X) d hl hn hL (fun ls' hl' => k z hz H locs ls' hl' hP hS)
theorem zj_aload_n (q : Nat) (p : Nat) {n : Fin 4} {i : Nat} {v : Nat} (X : ZX E V A own cc nL ret fr lo) (d : decode cc pc = .ok (.aload_n n, 1)) (hi : (n : Nat) = i) (hk : L[p]? = some (i, .ref v)) (hq : pc + 1 = q) (k : ZJ E V A nL F q L (.ref v :: st) σ r) : ZJ E V A nL F pc L (st) σ r := by
  subst hq
  exact fun z hz H locs ls hl hP hS => lv_aload_n (zx_x X) (zx_c X) d hi (lv_at hl p hk) (k z hz H locs ls hl hP hS)
theorem zj_aload (q : Nat) (p : Nat) {i : Nat} {v : Nat} (X : ZX E V A own cc nL ret fr lo) (d : decode cc pc = .ok (.aload i, 2)) (hk : L[p]? = some (i, .ref v)) (hq : pc + 2 = q) (k : ZJ E V A nL F q L (.ref v :: st) σ r) : ZJ E V A nL F pc L (st) σ r := by
  subst hq
  exact fun z hz H locs ls hl hP hS => lv_aload (zx_x X) (zx_c X) d (lv_at hl p hk) (k z hz H locs ls hl hP hS)
theorem zj_astore_n (q : Nat) {n : Fin 4} {i : Nat} {v : Nat} (L2 : List (Nat × Value)) (X : ZX E V A own cc nL ret fr lo) (d : decode cc pc = .ok (.astore_n n, 1)) (hi : (n : Nat) = i) (hn : i < nL) (hL : (i, Value.ref v) :: L.filter (fun q => !(q.1 == i) && !(q.1 + 1 == i && q.2.category == 2)) = L2) (hq : pc + 1 = q) (k : ZJ E V A nL F q L2 st σ r) : ZJ E V A nL F pc L (.ref v :: st) σ r := by
  subst hq
  exact fun z hz H locs ls hl hP hS => lv_astore_n (zx_x X) (zx_c X) d hi hl hn hL (fun ls' hl' => k z hz H locs ls' hl' hP hS)
theorem zj_astore (q : Nat) {i : Nat} {v : Nat} (L2 : List (Nat × Value)) (X : ZX E V A own cc nL ret fr lo) (d : decode cc pc = .ok (.astore i, 2)) (hn : i < nL) (hL : (i, Value.ref v) :: L.filter (fun q => !(q.1 == i) && !(q.1 + 1 == i && q.2.category == 2)) = L2) (hq : pc + 2 = q) (k : ZJ E V A nL F q L2 st σ r) : ZJ E V A nL F pc L (.ref v :: st) σ r := by
  subst hq
  exact fun z hz H locs ls hl hP hS => lv_astore (zx_x X) (zx_c X) d hl hn hL (fun ls' hl' => k z hz H locs ls' hl' hP hS)
theorem zj_iinc (q p : Nat) {i : Nat} {n : Int} (c : Int32) {K : Int32 → Option ρ} (L2 : Int32 → List (Nat × Value)) (X : ZX E V A own cc nL ret fr lo) (d : decode cc pc = .ok (.iinc i n, 3)) (hc : Int32.ofInt n = c) (hk : L[p]? = some (i, .int x)) (hn : i < nL) (hL : ∀ v, (i, Value.int v) :: L.filter (fun q => !(q.1 == i) && !(q.1 + 1 == i && q.2.category == 2)) = L2 v) (hq : pc + 3 = q) (k : ∀ v : Int32, ZJ E V A nL F q (L2 v) st σ (K v)) : ZJ E V A nL F pc L st σ (zs_nm (x + c) K) := by
  subst hq
  exact fun z hz H locs ls hl hP hS => lv_iinc (zx_x X) (zx_c X) d hl hk (by rw [hc]) hn (hL _) (fun ls' hl' => k (x + c) z hz H locs ls' hl' hP hS)
theorem zj_iadd (q : Nat)  (X : ZX E V A own cc nL ret fr lo) (d : decode cc pc = .ok (.iadd, 1)) (hq : pc + 1 = q) (k : ZJ E V A nL F q L (.int (x + y) :: st) σ r) : ZJ E V A nL F pc L (.int y :: .int x :: st) σ r := by
  subst hq
  exact fun z hz H locs ls hl hP hS => lv_iadd (zx_x X) (zx_c X) d (k z hz H locs ls hl hP hS)
theorem zj_isub (q : Nat)  (X : ZX E V A own cc nL ret fr lo) (d : decode cc pc = .ok (.isub, 1)) (hq : pc + 1 = q) (k : ZJ E V A nL F q L (.int (x - y) :: st) σ r) : ZJ E V A nL F pc L (.int y :: .int x :: st) σ r := by
  subst hq
  exact fun z hz H locs ls hl hP hS => lv_isub (zx_x X) (zx_c X) d (k z hz H locs ls hl hP hS)
theorem zj_imul (q : Nat)  (X : ZX E V A own cc nL ret fr lo) (d : decode cc pc = .ok (.imul, 1)) (hq : pc + 1 = q) (k : ZJ E V A nL F q L (.int (x * y) :: st) σ r) : ZJ E V A nL F pc L (.int y :: .int x :: st) σ r := by
  subst hq
  exact fun z hz H locs ls hl hP hS => lv_imul (zx_x X) (zx_c X) d (k z hz H locs ls hl hP hS)
theorem zj_iand (q : Nat)  (X : ZX E V A own cc nL ret fr lo) (d : decode cc pc = .ok (.iand, 1)) (hq : pc + 1 = q) (k : ZJ E V A nL F q L (.int (x &&& y) :: st) σ r) : ZJ E V A nL F pc L (.int y :: .int x :: st) σ r := by
  subst hq
  exact fun z hz H locs ls hl hP hS => lv_iand (zx_x X) (zx_c X) d (k z hz H locs ls hl hP hS)
theorem zj_ior (q : Nat)  (X : ZX E V A own cc nL ret fr lo) (d : decode cc pc = .ok (.ior, 1)) (hq : pc + 1 = q) (k : ZJ E V A nL F q L (.int (x ||| y) :: st) σ r) : ZJ E V A nL F pc L (.int y :: .int x :: st) σ r := by
  subst hq
  exact fun z hz H locs ls hl hP hS => lv_ior (zx_x X) (zx_c X) d (k z hz H locs ls hl hP hS)
theorem zj_ixor (q : Nat)  (X : ZX E V A own cc nL ret fr lo) (d : decode cc pc = .ok (.ixor, 1)) (hq : pc + 1 = q) (k : ZJ E V A nL F q L (.int (x ^^^ y) :: st) σ r) : ZJ E V A nL F pc L (.int y :: .int x :: st) σ r := by
  subst hq
  exact fun z hz H locs ls hl hP hS => lv_ixor (zx_x X) (zx_c X) d (k z hz H locs ls hl hP hS)
theorem zj_ishl (q : Nat)  (X : ZX E V A own cc nL ret fr lo) (d : decode cc pc = .ok (.ishl, 1)) (hq : pc + 1 = q) (k : ZJ E V A nL F q L (.int (zo_shl x y) :: st) σ r) : ZJ E V A nL F pc L (.int y :: .int x :: st) σ r := by
  subst hq
  exact fun z hz H locs ls hl hP hS => lv_ishl (zx_x X) (zx_c X) d (k z hz H locs ls hl hP hS)
theorem zj_ishr (q : Nat)  (X : ZX E V A own cc nL ret fr lo) (d : decode cc pc = .ok (.ishr, 1)) (hq : pc + 1 = q) (k : ZJ E V A nL F q L (.int (zo_shr x y) :: st) σ r) : ZJ E V A nL F pc L (.int y :: .int x :: st) σ r := by
  subst hq
  exact fun z hz H locs ls hl hP hS => lv_ishr (zx_x X) (zx_c X) d (k z hz H locs ls hl hP hS)
theorem zj_iushr (q : Nat)  (X : ZX E V A own cc nL ret fr lo) (d : decode cc pc = .ok (.iushr, 1)) (hq : pc + 1 = q) (k : ZJ E V A nL F q L (.int (zo_ushr x y) :: st) σ r) : ZJ E V A nL F pc L (.int y :: .int x :: st) σ r := by
  subst hq
  exact fun z hz H locs ls hl hP hS => lv_iushr (zx_x X) (zx_c X) d rfl (k z hz H locs ls hl hP hS)
theorem zj_idiv (q : Nat)  (X : ZX E V A own cc nL ret fr lo) (d : decode cc pc = .ok (.idiv, 1)) (hne : ¬ y = 0) (hq : pc + 1 = q) (k : ZJ E V A nL F q L (.int (zo_idiv x y) :: st) σ r) : ZJ E V A nL F pc L (.int y :: .int x :: st) σ r := by
  subst hq
  exact fun z hz H locs ls hl hP hS => lv_idiv (zx_x X) (zx_c X) d hne (k z hz H locs ls hl hP hS)
theorem zj_irem (q : Nat)  (X : ZX E V A own cc nL ret fr lo) (d : decode cc pc = .ok (.irem, 1)) (hne : ¬ y = 0) (hq : pc + 1 = q) (k : ZJ E V A nL F q L (.int (zo_irem x y) :: st) σ r) : ZJ E V A nL F pc L (.int y :: .int x :: st) σ r := by
  subst hq
  exact fun z hz H locs ls hl hP hS => lv_irem (zx_x X) (zx_c X) d hne (k z hz H locs ls hl hP hS)
theorem zj_ineg (q : Nat)  (X : ZX E V A own cc nL ret fr lo) (d : decode cc pc = .ok (.ineg, 1)) (hq : pc + 1 = q) (k : ZJ E V A nL F q L (.int (-x) :: st) σ r) : ZJ E V A nL F pc L (.int x :: st) σ r := by
  subst hq
  exact fun z hz H locs ls hl hP hS => lv_ineg (zx_x X) (zx_c X) d (k z hz H locs ls hl hP hS)
theorem zj_ladd (q : Nat)  (X : ZX E V A own cc nL ret fr lo) (d : decode cc pc = .ok (.ladd, 1)) (hq : pc + 1 = q) (k : ZJ E V A nL F q L (.long (a + b) :: st) σ r) : ZJ E V A nL F pc L (.long b :: .long a :: st) σ r := by
  subst hq
  exact fun z hz H locs ls hl hP hS => lv_ladd (zx_x X) (zx_c X) d (k z hz H locs ls hl hP hS)
theorem zj_lsub (q : Nat)  (X : ZX E V A own cc nL ret fr lo) (d : decode cc pc = .ok (.lsub, 1)) (hq : pc + 1 = q) (k : ZJ E V A nL F q L (.long (a - b) :: st) σ r) : ZJ E V A nL F pc L (.long b :: .long a :: st) σ r := by
  subst hq
  exact fun z hz H locs ls hl hP hS => lv_lsub (zx_x X) (zx_c X) d (k z hz H locs ls hl hP hS)
theorem zj_lmul (q : Nat)  (X : ZX E V A own cc nL ret fr lo) (d : decode cc pc = .ok (.lmul, 1)) (hq : pc + 1 = q) (k : ZJ E V A nL F q L (.long (a * b) :: st) σ r) : ZJ E V A nL F pc L (.long b :: .long a :: st) σ r := by
  subst hq
  exact fun z hz H locs ls hl hP hS => lv_lmul (zx_x X) (zx_c X) d (k z hz H locs ls hl hP hS)
theorem zj_land (q : Nat)  (X : ZX E V A own cc nL ret fr lo) (d : decode cc pc = .ok (.land, 1)) (hq : pc + 1 = q) (k : ZJ E V A nL F q L (.long (a &&& b) :: st) σ r) : ZJ E V A nL F pc L (.long b :: .long a :: st) σ r := by
  subst hq
  exact fun z hz H locs ls hl hP hS => lv_land (zx_x X) (zx_c X) d (k z hz H locs ls hl hP hS)
theorem zj_lor (q : Nat)  (X : ZX E V A own cc nL ret fr lo) (d : decode cc pc = .ok (.lor, 1)) (hq : pc + 1 = q) (k : ZJ E V A nL F q L (.long (a ||| b) :: st) σ r) : ZJ E V A nL F pc L (.long b :: .long a :: st) σ r := by
  subst hq
  exact fun z hz H locs ls hl hP hS => lv_lor (zx_x X) (zx_c X) d (k z hz H locs ls hl hP hS)
theorem zj_lxor (q : Nat)  (X : ZX E V A own cc nL ret fr lo) (d : decode cc pc = .ok (.lxor, 1)) (hq : pc + 1 = q) (k : ZJ E V A nL F q L (.long (a ^^^ b) :: st) σ r) : ZJ E V A nL F pc L (.long b :: .long a :: st) σ r := by
  subst hq
  exact fun z hz H locs ls hl hP hS => lv_lxor (zx_x X) (zx_c X) d (k z hz H locs ls hl hP hS)
theorem zj_ldiv (q : Nat)  (X : ZX E V A own cc nL ret fr lo) (d : decode cc pc = .ok (.ldiv, 1)) (hne : ¬ b = 0) (hq : pc + 1 = q) (k : ZJ E V A nL F q L (.long (zo_ldiv a b) :: st) σ r) : ZJ E V A nL F pc L (.long b :: .long a :: st) σ r := by
  subst hq
  exact fun z hz H locs ls hl hP hS => lv_ldiv (zx_x X) (zx_c X) d hne (k z hz H locs ls hl hP hS)
theorem zj_lrem (q : Nat)  (X : ZX E V A own cc nL ret fr lo) (d : decode cc pc = .ok (.lrem, 1)) (hne : ¬ b = 0) (hq : pc + 1 = q) (k : ZJ E V A nL F q L (.long (zo_lrem a b) :: st) σ r) : ZJ E V A nL F pc L (.long b :: .long a :: st) σ r := by
  subst hq
  exact fun z hz H locs ls hl hP hS => lv_lrem (zx_x X) (zx_c X) d hne (k z hz H locs ls hl hP hS)
theorem zj_lshl (q : Nat)  (X : ZX E V A own cc nL ret fr lo) (d : decode cc pc = .ok (.lshl, 1)) (hq : pc + 1 = q) (k : ZJ E V A nL F q L (.long (zo_lshl a y) :: st) σ r) : ZJ E V A nL F pc L (.int y :: .long a :: st) σ r := by
  subst hq
  exact fun z hz H locs ls hl hP hS => lv_lshl (zx_x X) (zx_c X) d rfl (k z hz H locs ls hl hP hS)
theorem zj_lshr (q : Nat)  (X : ZX E V A own cc nL ret fr lo) (d : decode cc pc = .ok (.lshr, 1)) (hq : pc + 1 = q) (k : ZJ E V A nL F q L (.long (zo_lshr a y) :: st) σ r) : ZJ E V A nL F pc L (.int y :: .long a :: st) σ r := by
  subst hq
  exact fun z hz H locs ls hl hP hS => lv_lshr (zx_x X) (zx_c X) d rfl (k z hz H locs ls hl hP hS)
theorem zj_lushr (q : Nat)  (X : ZX E V A own cc nL ret fr lo) (d : decode cc pc = .ok (.lushr, 1)) (hq : pc + 1 = q) (k : ZJ E V A nL F q L (.long (zo_lushr a y) :: st) σ r) : ZJ E V A nL F pc L (.int y :: .long a :: st) σ r := by
  subst hq
  exact fun z hz H locs ls hl hP hS => lv_lushr (zx_x X) (zx_c X) d rfl (k z hz H locs ls hl hP hS)
theorem zj_lcmp (q : Nat)  (X : ZX E V A own cc nL ret fr lo) (d : decode cc pc = .ok (.lcmp, 1)) (hq : pc + 1 = q) (k : ZJ E V A nL F q L (.int (lg_cmp a b) :: st) σ r) : ZJ E V A nL F pc L (.long b :: .long a :: st) σ r := by
  subst hq
  exact fun z hz H locs ls hl hP hS => W.lcmp (zx_x X) (zx_c X) d (k z hz H locs ls hl hP hS)
theorem zj_i2l (q : Nat)  (X : ZX E V A own cc nL ret fr lo) (d : decode cc pc = .ok (.i2l, 1)) (hq : pc + 1 = q) (k : ZJ E V A nL F q L (.long x.toInt64 :: st) σ r) : ZJ E V A nL F pc L (.int x :: st) σ r := by
  subst hq
  exact fun z hz H locs ls hl hP hS => lv_i2l (zx_x X) (zx_c X) d rfl (k z hz H locs ls hl hP hS)
theorem zj_l2i (q : Nat)  (X : ZX E V A own cc nL ret fr lo) (d : decode cc pc = .ok (.l2i, 1)) (hq : pc + 1 = q) (k : ZJ E V A nL F q L (.int a.toInt32 :: st) σ r) : ZJ E V A nL F pc L (.long a :: st) σ r := by
  subst hq
  exact fun z hz H locs ls hl hP hS => lv_l2i (zx_x X) (zx_c X) d rfl (k z hz H locs ls hl hP hS)
theorem zj_i2b (q : Nat)  (X : ZX E V A own cc nL ret fr lo) (d : decode cc pc = .ok (.i2b, 1)) (hq : pc + 1 = q) (k : ZJ E V A nL F q L (.int x.toInt8.toInt32 :: st) σ r) : ZJ E V A nL F pc L (.int x :: st) σ r := by
  subst hq
  exact fun z hz H locs ls hl hP hS => lv_i2b (zx_x X) (zx_c X) d rfl (k z hz H locs ls hl hP hS)
theorem zj_i2s (q : Nat)  (X : ZX E V A own cc nL ret fr lo) (d : decode cc pc = .ok (.i2s, 1)) (hq : pc + 1 = q) (k : ZJ E V A nL F q L (.int x.toInt16.toInt32 :: st) σ r) : ZJ E V A nL F pc L (.int x :: st) σ r := by
  subst hq
  exact fun z hz H locs ls hl hP hS => lv_i2s (zx_x X) (zx_c X) d rfl (k z hz H locs ls hl hP hS)
theorem zj_dup (q : Nat) {u : Value} (X : ZX E V A own cc nL ret fr lo) (d : decode cc pc = .ok (.dup, 1)) (hu : u.category = 1) (hq : pc + 1 = q) (k : ZJ E V A nL F q L (u :: u :: st) σ r) : ZJ E V A nL F pc L (u :: st) σ r := by
  subst hq
  exact fun z hz H locs ls hl hP hS => lv_dup (zx_x X) (zx_c X) d hu (k z hz H locs ls hl hP hS)
theorem zj_pop (q : Nat) {u : Value} (X : ZX E V A own cc nL ret fr lo) (d : decode cc pc = .ok (.pop, 1)) (hu : u.category = 1) (hq : pc + 1 = q) (k : ZJ E V A nL F q L (st) σ r) : ZJ E V A nL F pc L (u :: st) σ r := by
  subst hq
  exact fun z hz H locs ls hl hP hS => lv_pop (zx_x X) (zx_c X) d hu (k z hz H locs ls hl hP hS)
theorem zj_dup2 (q : Nat) {u w : Value} (X : ZX E V A own cc nL ret fr lo) (d : decode cc pc = .ok (.dup2, 1)) (hu : u.category = 1) (hw : w.category = 1) (hq : pc + 1 = q) (k : ZJ E V A nL F q L (u :: w :: u :: w :: st) σ r) : ZJ E V A nL F pc L (u :: w :: st) σ r := by
  subst hq
  exact fun z hz H locs ls hl hP hS => lv_dup2_11 (zx_x X) (zx_c X) d hu hw (k z hz H locs ls hl hP hS)
theorem zj_dup2l (q : Nat) {u : Value} (X : ZX E V A own cc nL ret fr lo) (d : decode cc pc = .ok (.dup2, 1)) (hu : u.category = 2) (hq : pc + 1 = q) (k : ZJ E V A nL F q L (u :: u :: st) σ r) : ZJ E V A nL F pc L (u :: st) σ r := by
  subst hq
  exact fun z hz H locs ls hl hP hS => lv_dup2_2 (zx_x X) (zx_c X) d hu (k z hz H locs ls hl hP hS)
theorem zj_goto (q : Nat) {off : Int} (X : ZX E V A own cc nL ret fr lo) (d : decode cc pc = .ok (.goto off, 3)) (hq : (pc : Int) + off = (q : Int)) (k : ZJ E V A nL F q L st σ r) : ZJ E V A nL F pc L st σ r :=
  fun z hz H locs ls hl hP hS => lv_goto (zx_x X) (zx_c X) d hq (k z hz H locs ls hl hP hS)
theorem zj_if_eq (q q3 : Nat) {off : Int} {_ : Decidable (x = 0)} (X : ZX E V A own cc nL ret fr lo) (d : decode cc pc = .ok (.ifCond .eq off, 3)) (hq : (pc : Int) + off = (q : Int)) (h3 : pc + 3 = q3) (k1 : x = 0 → ZJ E V A nL F q L st σ r1) (k2 : ¬ (x = 0) → ZJ E V A nL F q3 L st σ r2) : ZJ E V A nL F pc L (.int x :: st) σ (if x = 0 then r1 else r2) := by
  subst h3
  exact fun z hz H locs ls hl hP hS => lv_if_eq (zx_x X) (zx_c X) d hq (fun h => k1 h z (by rw [← hz, if_pos h]) H locs ls hl hP hS) (fun h => k2 h z (by rw [← hz, if_neg h]) H locs ls hl hP hS)
theorem zj_if_ne (q q3 : Nat) {off : Int} {_ : Decidable (x = 0)} (X : ZX E V A own cc nL ret fr lo) (d : decode cc pc = .ok (.ifCond .ne off, 3)) (hq : (pc : Int) + off = (q : Int)) (h3 : pc + 3 = q3) (k1 : x = 0 → ZJ E V A nL F q3 L st σ r1) (k2 : ¬ (x = 0) → ZJ E V A nL F q L st σ r2) : ZJ E V A nL F pc L (.int x :: st) σ (if x = 0 then r1 else r2) := by
  subst h3
  exact fun z hz H locs ls hl hP hS => lv_if_ne (zx_x X) (zx_c X) d hq (fun h => k2 h z (by rw [← hz, if_neg h]) H locs ls hl hP hS) (fun h => k1 h z (by rw [← hz, if_pos h]) H locs ls hl hP hS)
theorem zj_if_lt (q q3 : Nat) {off : Int} {_ : Decidable (x < 0)} (X : ZX E V A own cc nL ret fr lo) (d : decode cc pc = .ok (.ifCond .lt off, 3)) (hq : (pc : Int) + off = (q : Int)) (h3 : pc + 3 = q3) (k1 : x < 0 → ZJ E V A nL F q L st σ r1) (k2 : ¬ (x < 0) → ZJ E V A nL F q3 L st σ r2) : ZJ E V A nL F pc L (.int x :: st) σ (if x < 0 then r1 else r2) := by
  subst h3
  exact fun z hz H locs ls hl hP hS => lv_if_lt (zx_x X) (zx_c X) d hq (fun h => k1 h z (by rw [← hz, if_pos h]) H locs ls hl hP hS) (fun h => k2 h z (by rw [← hz, if_neg h]) H locs ls hl hP hS)
theorem zj_if_ge (q q3 : Nat) {off : Int} {_ : Decidable (0 ≤ x)} (X : ZX E V A own cc nL ret fr lo) (d : decode cc pc = .ok (.ifCond .ge off, 3)) (hq : (pc : Int) + off = (q : Int)) (h3 : pc + 3 = q3) (k1 : 0 ≤ x → ZJ E V A nL F q L st σ r1) (k2 : ¬ (0 ≤ x) → ZJ E V A nL F q3 L st σ r2) : ZJ E V A nL F pc L (.int x :: st) σ (if 0 ≤ x then r1 else r2) := by
  subst h3
  exact fun z hz H locs ls hl hP hS => lv_if_ge (zx_x X) (zx_c X) d hq (fun h => k1 h z (by rw [← hz, if_pos h]) H locs ls hl hP hS) (fun h => k2 h z (by rw [← hz, if_neg h]) H locs ls hl hP hS)
theorem zj_if_gt (q q3 : Nat) {off : Int} {_ : Decidable (0 < x)} (X : ZX E V A own cc nL ret fr lo) (d : decode cc pc = .ok (.ifCond .gt off, 3)) (hq : (pc : Int) + off = (q : Int)) (h3 : pc + 3 = q3) (k1 : 0 < x → ZJ E V A nL F q L st σ r1) (k2 : ¬ (0 < x) → ZJ E V A nL F q3 L st σ r2) : ZJ E V A nL F pc L (.int x :: st) σ (if 0 < x then r1 else r2) := by
  subst h3
  exact fun z hz H locs ls hl hP hS => lv_if_gt (zx_x X) (zx_c X) d hq (fun h => k1 h z (by rw [← hz, if_pos h]) H locs ls hl hP hS) (fun h => k2 h z (by rw [← hz, if_neg h]) H locs ls hl hP hS)
theorem zj_if_le (q q3 : Nat) {off : Int} {_ : Decidable (x ≤ 0)} (X : ZX E V A own cc nL ret fr lo) (d : decode cc pc = .ok (.ifCond .le off, 3)) (hq : (pc : Int) + off = (q : Int)) (h3 : pc + 3 = q3) (k1 : x ≤ 0 → ZJ E V A nL F q L st σ r1) (k2 : ¬ (x ≤ 0) → ZJ E V A nL F q3 L st σ r2) : ZJ E V A nL F pc L (.int x :: st) σ (if x ≤ 0 then r1 else r2) := by
  subst h3
  exact fun z hz H locs ls hl hP hS => lv_if_le (zx_x X) (zx_c X) d hq (fun h => k1 h z (by rw [← hz, if_pos h]) H locs ls hl hP hS) (fun h => k2 h z (by rw [← hz, if_neg h]) H locs ls hl hP hS)
theorem zj_icmp_eq (q q3 : Nat) {off : Int} {_ : Decidable (x = y)} (X : ZX E V A own cc nL ret fr lo) (d : decode cc pc = .ok (.if_icmp .eq off, 3)) (hq : (pc : Int) + off = (q : Int)) (h3 : pc + 3 = q3) (k1 : x = y → ZJ E V A nL F q L st σ r1) (k2 : ¬ (x = y) → ZJ E V A nL F q3 L st σ r2) : ZJ E V A nL F pc L (.int y :: .int x :: st) σ (if x = y then r1 else r2) := by
  subst h3
  exact fun z hz H locs ls hl hP hS => lv_icmp_eq (zx_x X) (zx_c X) d hq (fun h => k1 h z (by rw [← hz, if_pos h]) H locs ls hl hP hS) (fun h => k2 h z (by rw [← hz, if_neg h]) H locs ls hl hP hS)
theorem zj_icmp_ne (q q3 : Nat) {off : Int} {_ : Decidable (x = y)} (X : ZX E V A own cc nL ret fr lo) (d : decode cc pc = .ok (.if_icmp .ne off, 3)) (hq : (pc : Int) + off = (q : Int)) (h3 : pc + 3 = q3) (k1 : x = y → ZJ E V A nL F q3 L st σ r1) (k2 : ¬ (x = y) → ZJ E V A nL F q L st σ r2) : ZJ E V A nL F pc L (.int y :: .int x :: st) σ (if x = y then r1 else r2) := by
  subst h3
  exact fun z hz H locs ls hl hP hS => lv_icmp_ne (zx_x X) (zx_c X) d hq (fun h => k2 h z (by rw [← hz, if_neg h]) H locs ls hl hP hS) (fun h => k1 h z (by rw [← hz, if_pos h]) H locs ls hl hP hS)
theorem zj_icmp_lt (q q3 : Nat) {off : Int} {_ : Decidable (x < y)} (X : ZX E V A own cc nL ret fr lo) (d : decode cc pc = .ok (.if_icmp .lt off, 3)) (hq : (pc : Int) + off = (q : Int)) (h3 : pc + 3 = q3) (k1 : x < y → ZJ E V A nL F q L st σ r1) (k2 : ¬ (x < y) → ZJ E V A nL F q3 L st σ r2) : ZJ E V A nL F pc L (.int y :: .int x :: st) σ (if x < y then r1 else r2) := by
  subst h3
  exact fun z hz H locs ls hl hP hS => lv_icmp_lt (zx_x X) (zx_c X) d hq (fun h => k1 h z (by rw [← hz, if_pos h]) H locs ls hl hP hS) (fun h => k2 h z (by rw [← hz, if_neg h]) H locs ls hl hP hS)
theorem zj_icmp_ge (q q3 : Nat) {off : Int} {_ : Decidable (y ≤ x)} (X : ZX E V A own cc nL ret fr lo) (d : decode cc pc = .ok (.if_icmp .ge off, 3)) (hq : (pc : Int) + off = (q : Int)) (h3 : pc + 3 = q3) (k1 : y ≤ x → ZJ E V A nL F q L st σ r1) (k2 : ¬ (y ≤ x) → ZJ E V A nL F q3 L st σ r2) : ZJ E V A nL F pc L (.int y :: .int x :: st) σ (if y ≤ x then r1 else r2) := by
  subst h3
  exact fun z hz H locs ls hl hP hS => lv_icmp_ge (zx_x X) (zx_c X) d hq (fun h => k1 h z (by rw [← hz, if_pos h]) H locs ls hl hP hS) (fun h => k2 h z (by rw [← hz, if_neg h]) H locs ls hl hP hS)
theorem zj_icmp_gt (q q3 : Nat) {off : Int} {_ : Decidable (y < x)} (X : ZX E V A own cc nL ret fr lo) (d : decode cc pc = .ok (.if_icmp .gt off, 3)) (hq : (pc : Int) + off = (q : Int)) (h3 : pc + 3 = q3) (k1 : y < x → ZJ E V A nL F q L st σ r1) (k2 : ¬ (y < x) → ZJ E V A nL F q3 L st σ r2) : ZJ E V A nL F pc L (.int y :: .int x :: st) σ (if y < x then r1 else r2) := by
  subst h3
  exact fun z hz H locs ls hl hP hS => lv_icmp_gt (zx_x X) (zx_c X) d hq (fun h => k1 h z (by rw [← hz, if_pos h]) H locs ls hl hP hS) (fun h => k2 h z (by rw [← hz, if_neg h]) H locs ls hl hP hS)
theorem zj_icmp_le (q q3 : Nat) {off : Int} {_ : Decidable (x ≤ y)} (X : ZX E V A own cc nL ret fr lo) (d : decode cc pc = .ok (.if_icmp .le off, 3)) (hq : (pc : Int) + off = (q : Int)) (h3 : pc + 3 = q3) (k1 : x ≤ y → ZJ E V A nL F q L st σ r1) (k2 : ¬ (x ≤ y) → ZJ E V A nL F q3 L st σ r2) : ZJ E V A nL F pc L (.int y :: .int x :: st) σ (if x ≤ y then r1 else r2) := by
  subst h3
  exact fun z hz H locs ls hl hP hS => lv_icmp_le (zx_x X) (zx_c X) d hq (fun h => k1 h z (by rw [← hz, if_pos h]) H locs ls hl hP hS) (fun h => k2 h z (by rw [← hz, if_neg h]) H locs ls hl hP hS)
theorem zj_tcase (q : Nat) {n : Int32} {off df lo1 hi1 : Int} {offs : Array Int} {len : Nat} {_ : Decidable (x = n)} (X : ZX E V A own cc nL ret fr lo) (d : decode cc pc = .ok (.tableswitch df lo1 hi1 offs, len)) (h1 : ¬ n.toInt < lo1) (h2 : ¬ hi1 < n.toInt) (ho : offs[(n.toInt - lo1).toNat]? = some off) (hq : (pc : Int) + off = (q : Int)) (k1 : x = n → ZJ E V A nL F q L st σ r1) (k2 : ¬ x = n → ZJ E V A nL F pc L (.int x :: st) σ r2) : ZJ E V A nL F pc L (.int x :: st) σ (if x = n then r1 else r2) := by
  intro z hz H locs ls hl hP hS
  by_cases h : x = n
  · rw [if_pos h] at hz
    have hk := k1 h z hz H locs ls hl hP hS
    subst h
    exact lv_tableIn (zx_x X) (zx_c X) d h1 h2 ho hq hk
  · rw [if_neg h] at hz
    exact k2 h z hz H locs ls hl hP hS
theorem zj_tdef (q : Nat) {df lo1 hi1 : Int} {offs : Array Int} {len : Nat} (X : ZX E V A own cc nL ret fr lo) (d : decode cc pc = .ok (.tableswitch df lo1 hi1 offs, len)) (h : x.toInt < lo1 ∨ hi1 < x.toInt) (hq : (pc : Int) + df = (q : Int)) (k : ZJ E V A nL F q L st σ r) : ZJ E V A nL F pc L (.int x :: st) σ r :=
  fun z hz H locs ls hl hP hS => lv_tableOut (zx_x X) (zx_c X) d h hq (k z hz H locs ls hl hP hS)
theorem zj_lcase (q : Nat) {n : Int32} {off df : Int} {ps : Array (Int × Int)} {len : Nat} {_ : Decidable (x = n)} (X : ZX E V A own cc nL ret fr lo) (d : decode cc pc = .ok (.lookupswitch df ps, len)) (hp : (ps.toList.zip (ps.toList.drop 1)).all (fun (a, next) => a.1 < next.1) = true) (ho : Op.lookupswitch.offset ps.toList df n.toInt = off) (hq : (pc : Int) + off = (q : Int)) (k1 : x = n → ZJ E V A nL F q L st σ r1) (k2 : ¬ x = n → ZJ E V A nL F pc L (.int x :: st) σ r2) : ZJ E V A nL F pc L (.int x :: st) σ (if x = n then r1 else r2) := by
  intro z hz H locs ls hl hP hS
  by_cases h : x = n
  · rw [if_pos h] at hz
    have hk := k1 h z hz H locs ls hl hP hS
    subst h
    exact lv_lookup (zx_x X) (zx_c X) d hp ho hq hk
  · rw [if_neg h] at hz
    exact k2 h z hz H locs ls hl hP hS
theorem zj_ldef (q : Nat) {off df : Int} {ps : Array (Int × Int)} {len : Nat} (X : ZX E V A own cc nL ret fr lo) (d : decode cc pc = .ok (.lookupswitch df ps, len)) (hp : (ps.toList.zip (ps.toList.drop 1)).all (fun (a, next) => a.1 < next.1) = true) (ho : Op.lookupswitch.offset ps.toList df x.toInt = off) (hq : (pc : Int) + off = (q : Int)) (k : ZJ E V A nL F q L st σ r) : ZJ E V A nL F pc L (.int x :: st) σ r :=
  fun z hz H locs ls hl hP hS => lv_lookup (zx_x X) (zx_c X) d hp ho hq (k z hz H locs ls hl hP hS)
def zFi (E : ZE) (V : ZV) (A : Nat → Prop) (z : Int32 × ZS) : State → Prop := MQ E.2.2.2.2.2.2.2.1 (va_Qi (fun (r : Int32) (u : ZS) => r = z.1 ∧ u = z.2) (fun u t => va_P V.2.1 V.2.2.1 (V.1 u) t.heap) A) E.2.2.2.2.2.2.1 E.2.2.2.2.1 0 0 A
def zFl (E : ZE) (V : ZV) (A : Nat → Prop) (z : Int64 × ZS) : State → Prop := MQ E.2.2.2.2.2.2.2.1 (va_Ql (fun (r : Int64) (u : ZS) => r = z.1 ∧ u = z.2) (fun u t => va_P V.2.1 V.2.2.1 (V.1 u) t.heap) A) E.2.2.2.2.2.2.1 E.2.2.2.2.1 0 0 A
def zFv (E : ZE) (V : ZV) (A : Nat → Prop) (z : ZS) : State → Prop := MQ E.2.2.2.2.2.2.2.1 (va_Qv (fun (u : ZS) => u = z) (fun u t => va_P V.2.1 V.2.2.1 (V.1 u) t.heap) A) E.2.2.2.2.2.2.1 E.2.2.2.2.1 0 0 A
theorem zj_iret (X : ZX E V A own cc nL (some .int) fr lo) (d : decode cc pc = .ok (.ireturn, 1)) : ZJ E V A nL (zFi E V A) pc L [.int x] σ (some (x, σ)) := by
  intro z hz H locs ls hl hP hS
  cases hz
  exact W.iret (zx_x X) (zx_c X) (zx_r X) (fun t ht hW => ⟨⟨x, σ, rfl, ⟨rfl, rfl⟩, by show va_P _ _ _ t.heap; rw [ht]; exact hP⟩, hS.F ht⟩) hS.2.2 d (hlocks := zx_l X)
theorem zj_zret (X : ZX E V A own cc nL (some .boolean) fr lo) (d : decode cc pc = .ok (.ireturn, 1)) (h : x = 0 ∨ x = 1) : ZJ E V A nL (zFi E V A) pc L [.int x] σ (some (x, σ)) := by
  intro z hz H locs ls hl hP hS
  cases hz
  exact W.zret (zx_x X) (zx_c X) (zx_r X) (by rcases h with rfl | rfl <;> rfl) (fun t ht hW => ⟨⟨x, σ, rfl, ⟨rfl, rfl⟩, by show va_P _ _ _ t.heap; rw [ht]; exact hP⟩, hS.F ht⟩) hS.2.2 d (hlocks := zx_l X)
theorem zj_lret (X : ZX E V A own cc nL (some .long) fr lo) (d : decode cc pc = .ok (.lreturn, 1)) : ZJ E V A nL (zFl E V A) pc L [.long a] σ (some (a, σ)) := by
  intro z hz H locs ls hl hP hS
  cases hz
  exact W.lret (zx_x X) (zx_c X) (zx_r X) (fun t ht hW => ⟨⟨a, σ, rfl, ⟨rfl, rfl⟩, by show va_P _ _ _ t.heap; rw [ht]; exact hP⟩, hS.F ht⟩) hS.2.2 d (hlocks := zx_l X)
theorem zj_vret (X : ZX E V A own cc nL none fr lo) (d : decode cc pc = .ok (.return_, 1)) : ZJ E V A nL (zFv E V A) pc L [] σ (some σ) := by
  intro z hz H locs ls hl hP hS
  cases hz
  exact W.vret (zx_x X) (zx_c X) (zx_r X) (fun t ht hW => ⟨⟨σ, rfl, rfl, by show va_P _ _ _ t.heap; rw [ht]; exact hP⟩, hS.F ht⟩) hS.2.2 d (hlocks := zx_l X)
theorem zj_gf (q q0 k ci : Nat) {C : String} {T : u_T} {N index p : Nat} {fs : List Value} {v : Value} (X : ZX E V A own cc nL ret fr lo) (hin : ∀ w ∈ u_ws C T N, w ∈ zw_w) (hw : Cond.fieldLink own index (T k).1 (T k).2.1 (T k).2.2.1 ∈ lw_tbl) (he : (V.1 σ)[q0]? = some (p, .inr (ci, fs))) (hc : V.2.2.1[ci]? = some (C, T, N)) (hk : k < N) (hv : fs[k]? = some v) (d : decode cc pc = .ok (.getfield index, 3)) (hq : pc + 3 = q) (kk : ZJ E V A nL F q L (v :: st) σ r) : ZJ E V A nL F pc L (.ref p :: st) σ r := by
  subst hq
  exact fun z hz H locs ls hl hP hS => va_get (D := V.2.1) (cl := V.2.2.1) (C := C) (T := T) (N := N) (ci := ci) (zx_x X) (zx_c X) (zx_t X) hin (zx_o X) (zx_k X) hP q0 he hc k hk (zx_g X hw rfl) (fun _ h => h) hv d (kk z hz H locs ls hl hP hS)
theorem zj_pf (q q0 k ci j : Nat) {C : String} {T : u_T} {N index p : Nat} {fs : List Value} {ty : FieldType} (X : ZX E V A own cc nL ret fr lo) (hin : ∀ w ∈ u_ws C T N, w ∈ zw_w) (ty0 : Nat → FieldType) (hty : ∀ k, k < N → parseFieldDescriptor (T k).2.2.1 = some (ty0 k)) (hnm : ∀ a, a < N → ∀ b, b < N → a ≠ b → (T a).2.1 ≠ (T b).2.1) (hw : Cond.fieldLink own index (T k).1 (T k).2.1 (T k).2.2.1 ∈ lw_tbl) (he : (V.1 σ)[q0]? = some (p, .inr (ci, fs))) (hc : V.2.2.1[ci]? = some (C, T, N)) (hk : k < N) (hfin : (T k).2.2.2 = false) (hd : parseFieldDescriptor (T k).2.2.1 = some ty) (hn : narrow ty (.int x) = .int x) (hfit : fits ty (.int x) = true) (hlen : k < fs.length) (hs : (V.1 σ).set q0 (p, .inr (ci, fs.set k (.int x))) = V.1 (zs_up σ 0 j x)) (d : decode cc pc = .ok (.putfield index, 3)) (hq : pc + 3 = q) (kk : ZJ E V A nL F q L st (zs_up σ 0 j x) r) : ZJ E V A nL F pc L (.int x :: .ref p :: st) σ r := by
  subst hq
  exact fun z hz H locs ls hl hP hS => va_put (D := V.2.1) (cl := V.2.2.1) (C := C) (T := T) (N := N) (ci := ci) (ty := ty) (zx_x X) (zx_c X) (zx_t X) hin ty0 hty hnm (zx_o X) (zx_k X) hP (zx_d X σ) hS q0 he hc k hk (zx_g X hw rfl) (fun _ h => h) hfin hd hn hfit hlen d (fun H1 locs1 hP1 _ hS1 => kk z hz H1 locs1 ls hl (by rw [hs] at hP1; exact hP1) hS1)
theorem zj_gfN (q q0 k ci : Nat) {C : String} {T : u_T} {N index p : Nat} {host : String} {fs : List Value} {v : Value} (X : ZX E V A own cc nL ret fr lo) (hin : ∀ w ∈ u_ws C T N, w ∈ zw_w) (hw : Cond.fieldLinkNest own index (T k).1 (T k).2.1 (T k).2.2.1 host ∈ lw_tbl) (he : (V.1 σ)[q0]? = some (p, .inr (ci, fs))) (hc : V.2.2.1[ci]? = some (C, T, N)) (hk : k < N) (hv : fs[k]? = some v) (d : decode cc pc = .ok (.getfield index, 3)) (hq : pc + 3 = q) (kk : ZJ E V A nL F q L (v :: st) σ r) : ZJ E V A nL F pc L (.ref p :: st) σ r := by
  subst hq
  exact fun z hz H locs ls hl hP hS => va_getN (D := V.2.1) (cl := V.2.2.1) (C := C) (T := T) (N := N) (ci := ci) (zx_x X) (zx_c X) (zx_t X) hin (zx_o X) (zx_k X) hP q0 he hc k hk (zx_gN X hw rfl rfl) (fun _ h => h) hv d (kk z hz H locs ls hl hP hS)
theorem zj_pfN (q q0 k ci j : Nat) {C : String} {T : u_T} {N index p : Nat} {host : String} {fs : List Value} {ty : FieldType} (X : ZX E V A own cc nL ret fr lo) (hin : ∀ w ∈ u_ws C T N, w ∈ zw_w) (ty0 : Nat → FieldType) (hty : ∀ k, k < N → parseFieldDescriptor (T k).2.2.1 = some (ty0 k)) (hnm : ∀ a, a < N → ∀ b, b < N → a ≠ b → (T a).2.1 ≠ (T b).2.1) (hw : Cond.fieldLinkNest own index (T k).1 (T k).2.1 (T k).2.2.1 host ∈ lw_tbl) (he : (V.1 σ)[q0]? = some (p, .inr (ci, fs))) (hc : V.2.2.1[ci]? = some (C, T, N)) (hk : k < N) (hfin : (T k).2.2.2 = false) (hd : parseFieldDescriptor (T k).2.2.1 = some ty) (hn : narrow ty (.int x) = .int x) (hfit : fits ty (.int x) = true) (hlen : k < fs.length) (hs : (V.1 σ).set q0 (p, .inr (ci, fs.set k (.int x))) = V.1 (zs_up σ 0 j x)) (d : decode cc pc = .ok (.putfield index, 3)) (hq : pc + 3 = q) (kk : ZJ E V A nL F q L st (zs_up σ 0 j x) r) : ZJ E V A nL F pc L (.int x :: .ref p :: st) σ r := by
  subst hq
  exact fun z hz H locs ls hl hP hS => va_putN (D := V.2.1) (cl := V.2.2.1) (C := C) (T := T) (N := N) (ci := ci) (ty := ty) (zx_x X) (zx_c X) (zx_t X) hin ty0 hty hnm (zx_o X) (zx_k X) hP (zx_d X σ) hS q0 he hc k hk (zx_gN X hw rfl rfl) (fun _ h => h) hfin hd hn hfit hlen d (fun H1 locs1 hP1 _ hS1 => kk z hz H1 locs1 ls hl (by rw [hs] at hP1; exact hP1) hS1)
theorem zj_iaload (q q0 t0 : Nat) {cA : ClassId} {n p : Nat} {f : Nat → Int32} (X : ZX E V A own cc nL ret fr lo) (he : (V.1 σ)[q0]? = some (p, .inl (cA, n, .inl f))) (ht : V.2.2.2.1[t0]? = some (cA, .int)) (hin : ¬ (y < 0 ∨ n ≤ y.toNatClampNeg)) (d : decode cc pc = .ok (.iaload, 1)) (hq : pc + 1 = q) (kk : ZJ E V A nL F q L (.int (f y.toNatClampNeg) :: st) σ r) : ZJ E V A nL F pc L (.int y :: .ref p :: st) σ r := by
  subst hq
  exact fun z hz H locs ls hl hP hS => va_iald (zx_x X) (zx_c X) (zx_k X) hP q0 t0 he ht hin d (kk z hz H locs ls hl hP hS)
theorem zj_iastore (q q0 t0 j : Nat) {cA : ClassId} {n p : Nat} {f : Nat → Int32} (X : ZX E V A own cc nL ret fr lo) (he : (V.1 σ)[q0]? = some (p, .inl (cA, n, .inl f))) (ht : V.2.2.2.1[t0]? = some (cA, .int)) (hin : ¬ (y < 0 ∨ n ≤ y.toNatClampNeg)) (hs : (V.1 σ).set q0 (p, .inl (cA, n, .inl (upd f y.toNatClampNeg (x)))) = V.1 (zs_up σ j y.toNatClampNeg (x))) (d : decode cc pc = .ok (.iastore, 1)) (hq : pc + 1 = q) (kk : ZJ E V A nL F q L st (zs_up σ j y.toNatClampNeg (x)) r) : ZJ E V A nL F pc L (.int x :: .int y :: .ref p :: st) σ r := by
  subst hq
  exact fun z hz H locs ls hl hP hS => va_iast (zx_x X) (zx_c X) (zx_k X) hP (zx_d X σ) hS q0 t0 he ht hin d (fun H1 locs1 hP1 _ hS1 => kk z hz H1 locs1 ls hl (by rw [hs] at hP1; exact hP1) hS1)
theorem zj_baload (q q0 t0 : Nat) {cA : ClassId} {n p : Nat} {f : Nat → Int32} (X : ZX E V A own cc nL ret fr lo) (he : (V.1 σ)[q0]? = some (p, .inl (cA, n, .inl f))) (ht : V.2.2.2.1[t0]? = some (cA, .byte)) (hin : ¬ (y < 0 ∨ n ≤ y.toNatClampNeg)) (d : decode cc pc = .ok (.baload, 1)) (hq : pc + 1 = q) (kk : ZJ E V A nL F q L (.int (f y.toNatClampNeg) :: st) σ r) : ZJ E V A nL F pc L (.int y :: .ref p :: st) σ r := by
  subst hq
  exact fun z hz H locs ls hl hP hS => va_bald (zx_x X) (zx_c X) (zx_k X) hP q0 t0 he ht hin d (kk z hz H locs ls hl hP hS)
theorem zj_bastore (q q0 t0 j : Nat) {cA : ClassId} {n p : Nat} {f : Nat → Int32} (X : ZX E V A own cc nL ret fr lo) (he : (V.1 σ)[q0]? = some (p, .inl (cA, n, .inl f))) (ht : V.2.2.2.1[t0]? = some (cA, .byte)) (hin : ¬ (y < 0 ∨ n ≤ y.toNatClampNeg)) (hs : (V.1 σ).set q0 (p, .inl (cA, n, .inl (upd f y.toNatClampNeg (x.toInt8.toInt32)))) = V.1 (zs_up σ j y.toNatClampNeg (x.toInt8.toInt32))) (d : decode cc pc = .ok (.bastore, 1)) (hq : pc + 1 = q) (kk : ZJ E V A nL F q L st (zs_up σ j y.toNatClampNeg (x.toInt8.toInt32)) r) : ZJ E V A nL F pc L (.int x :: .int y :: .ref p :: st) σ r := by
  subst hq
  exact fun z hz H locs ls hl hP hS => va_bast (zx_x X) (zx_c X) (zx_k X) hP (zx_d X σ) hS q0 t0 he ht hin d (fun H1 locs1 hP1 _ hS1 => kk z hz H1 locs1 ls hl (by rw [vp_nar_byte] at hP1; rw [hs] at hP1; exact hP1) hS1)
theorem zj_gs (q : Nat) {C n dd : String} {index : Nat} {v : Value} (X : ZX E V A own cc nL ret fr lo) (hZ : va_Z C n dd v A E.2.2.2.2.1 E.2.2.2.2.1.heap) (hw : Cond.fieldLink own index C n dd ∈ lw_tbl) (d : decode cc pc = .ok (.getstatic index, 3)) (hq : pc + 3 = q) (kk : ZJ E V A nL F q L (v :: st) σ r) : ZJ E V A nL F pc L st σ r := by
  subst hq
  exact fun z hz H locs ls hl hP hS => va_gets (zx_x X) (zx_c X) hZ hS (zx_o X) (zx_g X hw rfl) (fun _ h => h) d (kk z hz H locs ls hl hP hS)
theorem zj_gsN (q : Nat) {C n dd host : String} {index : Nat} {v : Value} (X : ZX E V A own cc nL ret fr lo) (hZ : va_Z C n dd v A E.2.2.2.2.1 E.2.2.2.2.1.heap) (hw : Cond.fieldLink own index C n dd ∈ lw_tbl) (d : decode cc pc = .ok (.getstatic index, 3)) (hq : pc + 3 = q) (kk : ZJ E V A nL F q L (v :: st) σ r) : ZJ E V A nL F pc L st σ r := by
  subst hq
  exact fun z hz H locs ls hl hP hS => va_gets (zx_x X) (zx_c X) hZ hS (zx_o X) (zx_g X hw rfl) (fun _ h => h) d (kk z hz H locs ls hl hP hS)
theorem zj_tald (q : Nat) {t N : Nat} {f : Nat → Int32} (X : ZX E V A own cc nL ret fr lo) (hT : va_T .int t N (fun k => .int (f k)) A E.2.2.2.2.1 E.2.2.2.2.1.heap) (hin : ¬ (y < 0 ∨ N ≤ y.toNatClampNeg)) (d : decode cc pc = .ok (.iaload, 1)) (hq : pc + 1 = q) (kk : ZJ E V A nL F q L (.int (f y.toNatClampNeg) :: st) σ r) : ZJ E V A nL F pc L (.int y :: .ref t :: st) σ r := by
  subst hq
  exact fun z hz H locs ls hl hP hS => va_ti (zx_x X) (zx_c X) hT hS hin rfl d (kk z hz H locs ls hl hP hS)
def zPc (V : ZV) (σ : ZS) (av : List Value) : Array Value → State → Prop := va_Pc av (fun U => va_P V.2.1 V.2.2.1 (V.1 σ) U.heap ∧ va_K V.2.1 V.2.2.1 V.2.2.2.1 U ∧ V.2.2.2.2.2 V.2.2.2.2.1 U U.heap ∧ zw_N U)
theorem zPc_blind (hV : ZVok V) (σ : ZS) (av : List Value) : FrameBlind (zPc V σ av) := by
  intro a U g mk h
  obtain ⟨h0, hP, hK, hT, hN⟩ := h
  exact ⟨h0, hP, va_K.moved (u := U) (U := U.calling g mk a) (Vm.Alike.refl U.vm) hK, hV.2.1 _ U (U.calling g mk a) _ _ (Vm.Alike.refl U.vm) (fun _ _ _ => rfl) hT, zw_N.same (u := U) (U := U.calling g mk a) rfl hN⟩
theorem zx_pre (X : ZX E V A own cc nL ret fr lo) {H : Heap} {locs : List Loc} (hP : va_P V.2.1 V.2.2.1 (V.1 σ) H) (hS : va_S A E.2.2.2.2.1.heap H locs) (av : List Value) (U : State) (hU : U.heap = H) (hW : E.2.2.2.2.1.WarmedH U.vm) : zPc V σ av av.toArray U := by
  refine ⟨rfl, by rw [hU]; exact hP, va_K.moved hW.alike (zx_k X), ?_, zw_N.warm hW (zx_n X)⟩
  exact (zx_v X).2.2 A _ U _ (zx_a X) ((zx_v X).2.1 A _ U _ _ hW.alike (fun q h1 h2 => by rw [hU]; exact hS.2.1 q h1 h2) (zx_s X))
def zMi (l : Launch) (y : MethodName) (cc : ByteArray) (nL : Nat) (ret : Option FieldType) (fr lo : Nat) (V : ZV) (σ : ZS) (av : List Value) (z : Int32 × ZS) : Prop :=
  Met l y (Cond.code y cc nL ret :: zw_w) ({ frames := fr, cells := 0, slots := 0, locals := lo }) (zPc V σ av) (va_Qi (fun (r : Int32) (u : ZS) => r = z.1 ∧ u = z.2) (fun u t => va_P V.2.1 V.2.2.1 (V.1 u) t.heap) V.2.2.2.2.1) 0 0 V.2.2.2.2.1
theorem zMi_of {l : Launch} {y : MethodName} {av : List Value} {r : Option (Int32 × ZS)} (hy : plainName y.cls = true) (ho : y.cls = own) (hL : lv_args 0 av = L) (hlen : (lg_sl av).length ≤ nL) (hV : ZVok V)
    (j : ∀ E : ZE, ZX E V V.2.2.2.2.1 own cc nL ret fr lo → ZJ E V V.2.2.2.2.1 nL (zFi E V V.2.2.2.2.1) 0 L [] σ r) {z : Int32 × ZS} (h : r = some z) : zMi l y cc nL ret fr lo V σ av z := by
  refine Met.ofW (cc := cc) (maxL := nL) (ret := ret) hy rfl ?_
  intro p e s m args below meth c s₁ B hml hv
  obtain ⟨rfl, hP, hK, hT, hN⟩ := hv
  have hts := atoms_spec (ws := Cond.code y cc nL ret :: zw_w) B.pre
  have hown : s.vm.findClass own = some m.cls := by rw [← ho]; exact findClass_of_methodNamed B.named
  have hl := lv_entry av (n := nL) hlen
  rw [lg_entry_eq]
  generalize (lg_sl av ++ List.replicate (nL - (lg_sl av).length) Slot.unset).toArray = ls at hl ⊢
  rw [hL] at hl
  exact j (p, l, e, (headSpec (Cond.code y cc nL ret :: zw_w) ({ frames := fr, cells := 0, slots := 0, locals := lo })).room, s, m, av.toArray, below, meth, c) ⟨B.exec, B.bytes, hml, hown, fun w hw => hts w (List.mem_cons_of_mem _ hw), hK, B.returns, B.notSynchronized, hV, fun _ h => h, hT, Nat.le_refl _, Nat.le_refl _, hN⟩ z h s.heap [] ls hl hP va_S.rf
def zMl (l : Launch) (y : MethodName) (cc : ByteArray) (nL : Nat) (ret : Option FieldType) (fr lo : Nat) (V : ZV) (σ : ZS) (av : List Value) (z : Int64 × ZS) : Prop :=
  Met l y (Cond.code y cc nL ret :: zw_w) ({ frames := fr, cells := 0, slots := 0, locals := lo }) (zPc V σ av) (va_Ql (fun (r : Int64) (u : ZS) => r = z.1 ∧ u = z.2) (fun u t => va_P V.2.1 V.2.2.1 (V.1 u) t.heap) V.2.2.2.2.1) 0 0 V.2.2.2.2.1
theorem zMl_of {l : Launch} {y : MethodName} {av : List Value} {r : Option (Int64 × ZS)} (hy : plainName y.cls = true) (ho : y.cls = own) (hL : lv_args 0 av = L) (hlen : (lg_sl av).length ≤ nL) (hV : ZVok V)
    (j : ∀ E : ZE, ZX E V V.2.2.2.2.1 own cc nL ret fr lo → ZJ E V V.2.2.2.2.1 nL (zFl E V V.2.2.2.2.1) 0 L [] σ r) {z : Int64 × ZS} (h : r = some z) : zMl l y cc nL ret fr lo V σ av z := by
  refine Met.ofW (cc := cc) (maxL := nL) (ret := ret) hy rfl ?_
  intro p e s m args below meth c s₁ B hml hv
  obtain ⟨rfl, hP, hK, hT, hN⟩ := hv
  have hts := atoms_spec (ws := Cond.code y cc nL ret :: zw_w) B.pre
  have hown : s.vm.findClass own = some m.cls := by rw [← ho]; exact findClass_of_methodNamed B.named
  have hl := lv_entry av (n := nL) hlen
  rw [lg_entry_eq]
  generalize (lg_sl av ++ List.replicate (nL - (lg_sl av).length) Slot.unset).toArray = ls at hl ⊢
  rw [hL] at hl
  exact j (p, l, e, (headSpec (Cond.code y cc nL ret :: zw_w) ({ frames := fr, cells := 0, slots := 0, locals := lo })).room, s, m, av.toArray, below, meth, c) ⟨B.exec, B.bytes, hml, hown, fun w hw => hts w (List.mem_cons_of_mem _ hw), hK, B.returns, B.notSynchronized, hV, fun _ h => h, hT, Nat.le_refl _, Nat.le_refl _, hN⟩ z h s.heap [] ls hl hP va_S.rf
def zMv (l : Launch) (y : MethodName) (cc : ByteArray) (nL : Nat) (ret : Option FieldType) (fr lo : Nat) (V : ZV) (σ : ZS) (av : List Value) (z : ZS) : Prop :=
  Met l y (Cond.code y cc nL ret :: zw_w) ({ frames := fr, cells := 0, slots := 0, locals := lo }) (zPc V σ av) (va_Qv (fun (u : ZS) => u = z) (fun u t => va_P V.2.1 V.2.2.1 (V.1 u) t.heap) V.2.2.2.2.1) 0 0 V.2.2.2.2.1
theorem zMv_of {l : Launch} {y : MethodName} {av : List Value} {r : Option (ZS)} (hy : plainName y.cls = true) (ho : y.cls = own) (hL : lv_args 0 av = L) (hlen : (lg_sl av).length ≤ nL) (hV : ZVok V)
    (j : ∀ E : ZE, ZX E V V.2.2.2.2.1 own cc nL ret fr lo → ZJ E V V.2.2.2.2.1 nL (zFv E V V.2.2.2.2.1) 0 L [] σ r) {z : ZS} (h : r = some z) : zMv l y cc nL ret fr lo V σ av z := by
  refine Met.ofW (cc := cc) (maxL := nL) (ret := ret) hy rfl ?_
  intro p e s m args below meth c s₁ B hml hv
  obtain ⟨rfl, hP, hK, hT, hN⟩ := hv
  have hts := atoms_spec (ws := Cond.code y cc nL ret :: zw_w) B.pre
  have hown : s.vm.findClass own = some m.cls := by rw [← ho]; exact findClass_of_methodNamed B.named
  have hl := lv_entry av (n := nL) hlen
  rw [lg_entry_eq]
  generalize (lg_sl av ++ List.replicate (nL - (lg_sl av).length) Slot.unset).toArray = ls at hl ⊢
  rw [hL] at hl
  exact j (p, l, e, (headSpec (Cond.code y cc nL ret :: zw_w) ({ frames := fr, cells := 0, slots := 0, locals := lo })).room, s, m, av.toArray, below, meth, c) ⟨B.exec, B.bytes, hml, hown, fun w hw => hts w (List.mem_cons_of_mem _ hw), hK, B.returns, B.notSynchronized, hV, fun _ h => h, hT, Nat.le_refl _, Nat.le_refl _, hN⟩ z h s.heap [] ls hl hP va_S.rf
/-- what the tables say of a call by an index of the pool: of an instance's method (its own class's), of a static one, of a nest mate's -/
def zCV (own : String) (index : Nat) (y : MethodName) (bytes : ByteArray) (maxL : Nat) (ret : Option FieldType) (n : Nat) : Prop := (Cond.methodLink own index y ∈ lw_tbl ∧ Cond.instanceMethod y ∈ lw_tbl ∧ Cond.selects y.cls y y ∈ lw_tbl ∧ Cond.initialized y.cls ∈ lw_tbl ∧ Cond.code y bytes maxL ret ∈ lw_tbl) ∧ y.cls ≠ "java/lang/invoke/MethodHandle" ∧ y.cls ≠ "java/lang/invoke/VarHandle" ∧ (parseMethodDescriptor y.desc).map (fun d => d.parameters.length) = some n
def zCS (own : String) (index : Nat) (y : MethodName) (bytes : ByteArray) (maxL : Nat) (ret : Option FieldType) (n : Nat) : Prop := (Cond.methodLink own index y ∈ lw_tbl ∧ Cond.static y ∈ lw_tbl ∧ Cond.initialized y.cls ∈ lw_tbl ∧ Cond.code y bytes maxL ret ∈ lw_tbl) ∧ y.cls ≠ "java/lang/invoke/MethodHandle" ∧ y.cls ≠ "java/lang/invoke/VarHandle" ∧ (parseMethodDescriptor y.desc).map (fun d => d.parameters.length) = some n
def zCN (own : String) (index : Nat) (y : MethodName) (host : String) (bytes : ByteArray) (maxL : Nat) (ret : Option FieldType) (n : Nat) : Prop := (Cond.methodLinkNest own index y host ∈ lw_tbl ∧ Cond.initialized y.cls ∈ lw_tbl ∧ Cond.code y bytes maxL ret ∈ lw_tbl) ∧ y.cls ≠ "java/lang/invoke/MethodHandle" ∧ y.cls ≠ "java/lang/invoke/VarHandle" ∧ (parseMethodDescriptor y.desc).map (fun d => d.parameters.length) = some n
theorem zg_tail {y : MethodName} {bytes : ByteArray} {maxL : Nat} {ret : Option FieldType} (h : Cond.code y bytes maxL ret ∈ lw_tbl) : GoodIn zw_w (Cond.code y bytes maxL ret :: zw_w) := by
  intro w hw
  rcases List.mem_cons.mp hw with rfl | h1
  · exact ⟨zw_in h rfl, zw_good (zw_in h rfl)⟩
  · exact ⟨h1, zw_good h1⟩
theorem zg_V {index n maxL : Nat} {y : MethodName} {bytes : ByteArray} {ret : Option FieldType} (h : zCV own index y bytes maxL ret n) : GoodIn zw_w (wsV own index y.cls y (Cond.code y bytes maxL ret :: zw_w)) := by
  obtain ⟨⟨h1, h2, h3, h4, h5⟩, -⟩ := h
  intro w hw
  unfold wsV at hw
  rcases List.mem_append.mp hw with h6 | h6
  · simp only [List.mem_cons, List.not_mem_nil, or_false] at h6
    rcases h6 with rfl | rfl | rfl | rfl
    · exact ⟨zw_in h1 rfl, zw_good (zw_in h1 rfl)⟩
    · exact ⟨zw_in h2 rfl, zw_good (zw_in h2 rfl)⟩
    · exact ⟨zw_in h3 rfl, zw_good (zw_in h3 rfl)⟩
    · exact ⟨zw_in h4 rfl, zw_good (zw_in h4 rfl)⟩
  · exact zg_tail h5 w h6
theorem zg_S {index n maxL : Nat} {y : MethodName} {bytes : ByteArray} {ret : Option FieldType} (h : zCS own index y bytes maxL ret n) : GoodIn zw_w (va_wsS own index y (Cond.code y bytes maxL ret :: zw_w)) := by
  obtain ⟨⟨h1, h2, h4, h5⟩, -⟩ := h
  intro w hw
  unfold va_wsS at hw
  rcases List.mem_append.mp hw with h6 | h6
  · simp only [List.mem_cons, List.not_mem_nil, or_false] at h6
    rcases h6 with rfl | rfl | rfl
    · exact ⟨zw_in h1 rfl, zw_good (zw_in h1 rfl)⟩
    · exact ⟨zw_in h2 rfl, zw_good (zw_in h2 rfl)⟩
    · exact ⟨zw_in h4 rfl, zw_good (zw_in h4 rfl)⟩
  · exact zg_tail h5 w h6
theorem zj_cVi (q q0 ci : Nat) {y : MethodName} {index maxL fr' lo' b N : Nat} {bytes : ByteArray} {ret' : Option FieldType} {T : u_T} {fs As rest : List Value} {f : Option (Int32 × ZS)} {K : Int32 × ZS → Option ρ} (X : ZX E V A own cc nL ret fr lo) (hC : zCV own index y bytes maxL ret' As.length) (hfr : fr' + 1 ≤ fr) (hlo : 8 + (maxL + 11) + lo' ≤ lo)
    (hM : ∀ p, f = some p → zMi E.2.1 y bytes maxL ret' fr' lo' V σ (.ref b :: As) p) (he : (V.1 σ)[q0]? = some (b, .inr (ci, fs))) (hc : V.2.2.1[ci]? = some (y.cls, T, N)) (hst : st = As.reverse ++ .ref b :: rest) (hr : (rest.map fun v => v.category).sum ≤ 8) (d : decode cc pc = .ok (.invokevirtual index, 3)) (hq : pc + 3 = q)
    (kk : ∀ p, ZJ E V A nL F q L (.int p.1 :: rest) p.2 (K p)) : ZJ E V A nL F pc L st σ (f.bind K) := by
  subst hq
  intro z hz H locs ls hl hP hS
  obtain ⟨p, hp, hz⟩ := Option.bind_eq_some_iff.mp hz
  refine va_calli (va_runV (C := y.cls) (As := As) (rest := rest) ⟨zx_x X, zx_c X, zx_m X, zx_o X, zx_t X⟩ (hM p hp) (cwV As.length (zx_t X) (zg_V hC) rfl rfl rfl ⟨rfl, hC.2⟩ ⟨Nat.le_trans hfr (zx_f X), Nat.le_trans hlo (zx_w X)⟩) ⟨zPc_blind (zx_v X) σ _, va_recv (zx_k X) hP hc he, fun U hU hW => zx_pre X hP hS _ U hU hW⟩ rfl rfl hl.1 hst (lv_room hr) d ⟨Nat.zero_le _, Nat.zero_le _⟩) hS (fun q _ h => zx_a X q h) (zx_a X) (fun r u t H1 locs1 ht hvm hp2 hB hz1 hk1 hS1 => ?_)
  obtain ⟨rfl, rfl⟩ := hp2
  exact kk p z hz H1 locs1 ls hl (by rw [← ht]; exact hB) hS1
theorem zj_cSi (q : Nat) {y : MethodName} {index maxL fr' lo' : Nat} {bytes : ByteArray} {ret' : Option FieldType} {As rest : List Value} {f : Option (Int32 × ZS)} {K : Int32 × ZS → Option ρ} (X : ZX E V A own cc nL ret fr lo) (hC : zCS own index y bytes maxL ret' As.length) (hfr : fr' + 1 ≤ fr) (hlo : 8 + (maxL + 11) + lo' ≤ lo)
    (hM : ∀ p, f = some p → zMi E.2.1 y bytes maxL ret' fr' lo' V σ As p) (hst : st = As.reverse ++ rest) (hr : (rest.map fun v => v.category).sum ≤ 8) (d : decode cc pc = .ok (.invokestatic index, 3)) (hq : pc + 3 = q)
    (kk : ∀ p, ZJ E V A nL F q L (.int p.1 :: rest) p.2 (K p)) : ZJ E V A nL F pc L st σ (f.bind K) := by
  subst hq
  intro z hz H locs ls hl hP hS
  obtain ⟨p, hp, hz⟩ := Option.bind_eq_some_iff.mp hz
  refine va_calli (va_runS (As := As) (rest := rest) ⟨zx_x X, zx_c X, zx_m X, zx_o X, zx_t X⟩ (hM p hp) (va_cwS As.length (zx_t X) (zg_S hC) rfl rfl rfl hC.2 ⟨Nat.le_trans hfr (zx_f X), Nat.le_trans hlo (zx_w X)⟩) ⟨zPc_blind (zx_v X) σ _, fun U hU hW => zx_pre X hP hS _ U hU hW⟩ rfl rfl hl.1 hst (lv_room hr) d ⟨Nat.zero_le _, Nat.zero_le _⟩) hS (fun q _ h => zx_a X q h) (zx_a X) (fun r u t H1 locs1 ht hvm hp2 hB hz1 hk1 hS1 => ?_)
  obtain ⟨rfl, rfl⟩ := hp2
  exact kk p z hz H1 locs1 ls hl (by rw [← ht]; exact hB) hS1
theorem zj_cVNi (q q0 ci : Nat) {y : MethodName} {index maxL fr' lo' b N : Nat} {host : String} {bytes : ByteArray} {ret' : Option FieldType} {T : u_T} {fs As rest : List Value} {f : Option (Int32 × ZS)} {K : Int32 × ZS → Option ρ} (X : ZX E V A own cc nL ret fr lo) (hC : zCN own index y host bytes maxL ret' As.length) (hi : Cond.instanceMethod y ∈ lw_tbl) (hsel : Cond.selects y.cls y y ∈ lw_tbl) (hfr : fr' + 1 ≤ fr) (hlo : 8 + (maxL + 11) + lo' ≤ lo)
    (hM : ∀ p, f = some p → zMi E.2.1 y bytes maxL ret' fr' lo' V σ (.ref b :: As) p) (he : (V.1 σ)[q0]? = some (b, .inr (ci, fs))) (hc : V.2.2.1[ci]? = some (y.cls, T, N)) (hst : st = As.reverse ++ .ref b :: rest) (hr : (rest.map fun v => v.category).sum ≤ 8) (d : decode cc pc = .ok (.invokevirtual index, 3)) (hq : pc + 3 = q)
    (kk : ∀ p, ZJ E V A nL F q L (.int p.1 :: rest) p.2 (K p)) : ZJ E V A nL F pc L st σ (f.bind K) := by
  subst hq
  intro z hz H locs ls hl hP hS
  obtain ⟨p, hp, hz⟩ := Option.bind_eq_some_iff.mp hz
  refine va_calli (va_runVN (C := y.cls) (As := As) (rest := rest) ⟨zx_x X, zx_c X, zx_m X, zx_o X, zx_t X⟩ (hM p hp) ⟨va_cnB As.length (zx_t X) (zg_tail hC.1.2.2) rfl rfl rfl (zx_n X _ (zw_inN hC.1.1 rfl)) (zx_g X hC.1.2.1 rfl) hC.2 ⟨Nat.le_trans hfr (zx_f X), Nat.le_trans hlo (zx_w X)⟩, zx_g X hi rfl, zx_g X hsel rfl⟩ ⟨zPc_blind (zx_v X) σ _, va_recv (zx_k X) hP hc he, fun U hU hW => zx_pre X hP hS _ U hU hW⟩ rfl rfl hl.1 hst (lv_room hr) d ⟨Nat.zero_le _, Nat.zero_le _⟩) hS (fun q _ h => zx_a X q h) (zx_a X) (fun r u t H1 locs1 ht hvm hp2 hB hz1 hk1 hS1 => ?_)
  obtain ⟨rfl, rfl⟩ := hp2
  exact kk p z hz H1 locs1 ls hl (by rw [← ht]; exact hB) hS1
theorem zj_cSNi (q : Nat) {y : MethodName} {index maxL fr' lo' : Nat} {host : String} {bytes : ByteArray} {ret' : Option FieldType} {As rest : List Value} {f : Option (Int32 × ZS)} {K : Int32 × ZS → Option ρ} (X : ZX E V A own cc nL ret fr lo) (hC : zCN own index y host bytes maxL ret' As.length) (hi : Cond.static y ∈ lw_tbl) (hfr : fr' + 1 ≤ fr) (hlo : 8 + (maxL + 11) + lo' ≤ lo)
    (hM : ∀ p, f = some p → zMi E.2.1 y bytes maxL ret' fr' lo' V σ As p) (hst : st = As.reverse ++ rest) (hr : (rest.map fun v => v.category).sum ≤ 8) (d : decode cc pc = .ok (.invokestatic index, 3)) (hq : pc + 3 = q)
    (kk : ∀ p, ZJ E V A nL F q L (.int p.1 :: rest) p.2 (K p)) : ZJ E V A nL F pc L st σ (f.bind K) := by
  subst hq
  intro z hz H locs ls hl hP hS
  obtain ⟨p, hp, hz⟩ := Option.bind_eq_some_iff.mp hz
  refine va_calli (va_runSN (As := As) (rest := rest) ⟨zx_x X, zx_c X, zx_m X, zx_o X, zx_t X⟩ (hM p hp) ⟨va_cnB As.length (zx_t X) (zg_tail hC.1.2.2) rfl rfl rfl (zx_n X _ (zw_inN hC.1.1 rfl)) (zx_g X hC.1.2.1 rfl) hC.2 ⟨Nat.le_trans hfr (zx_f X), Nat.le_trans hlo (zx_w X)⟩, zx_g X hi rfl, trivial⟩ ⟨zPc_blind (zx_v X) σ _, fun U hU hW => zx_pre X hP hS _ U hU hW⟩ rfl rfl hl.1 hst (lv_room hr) d ⟨Nat.zero_le _, Nat.zero_le _⟩) hS (fun q _ h => zx_a X q h) (zx_a X) (fun r u t H1 locs1 ht hvm hp2 hB hz1 hk1 hS1 => ?_)
  obtain ⟨rfl, rfl⟩ := hp2
  exact kk p z hz H1 locs1 ls hl (by rw [← ht]; exact hB) hS1
theorem zj_cVl (q q0 ci : Nat) {y : MethodName} {index maxL fr' lo' b N : Nat} {bytes : ByteArray} {ret' : Option FieldType} {T : u_T} {fs As rest : List Value} {f : Option (Int64 × ZS)} {K : Int64 × ZS → Option ρ} (X : ZX E V A own cc nL ret fr lo) (hC : zCV own index y bytes maxL ret' As.length) (hfr : fr' + 1 ≤ fr) (hlo : 8 + (maxL + 11) + lo' ≤ lo)
    (hM : ∀ p, f = some p → zMl E.2.1 y bytes maxL ret' fr' lo' V σ (.ref b :: As) p) (he : (V.1 σ)[q0]? = some (b, .inr (ci, fs))) (hc : V.2.2.1[ci]? = some (y.cls, T, N)) (hst : st = As.reverse ++ .ref b :: rest) (hr : (rest.map fun v => v.category).sum ≤ 8) (d : decode cc pc = .ok (.invokevirtual index, 3)) (hq : pc + 3 = q)
    (kk : ∀ p, ZJ E V A nL F q L (.long p.1 :: rest) p.2 (K p)) : ZJ E V A nL F pc L st σ (f.bind K) := by
  subst hq
  intro z hz H locs ls hl hP hS
  obtain ⟨p, hp, hz⟩ := Option.bind_eq_some_iff.mp hz
  refine va_calll (va_runV (C := y.cls) (As := As) (rest := rest) ⟨zx_x X, zx_c X, zx_m X, zx_o X, zx_t X⟩ (hM p hp) (cwV As.length (zx_t X) (zg_V hC) rfl rfl rfl ⟨rfl, hC.2⟩ ⟨Nat.le_trans hfr (zx_f X), Nat.le_trans hlo (zx_w X)⟩) ⟨zPc_blind (zx_v X) σ _, va_recv (zx_k X) hP hc he, fun U hU hW => zx_pre X hP hS _ U hU hW⟩ rfl rfl hl.1 hst (lv_room hr) d ⟨Nat.zero_le _, Nat.zero_le _⟩) hS (fun q _ h => zx_a X q h) (zx_a X) (fun r u t H1 locs1 ht hvm hp2 hB hz1 hk1 hS1 => ?_)
  obtain ⟨rfl, rfl⟩ := hp2
  exact kk p z hz H1 locs1 ls hl (by rw [← ht]; exact hB) hS1
theorem zj_cSl (q : Nat) {y : MethodName} {index maxL fr' lo' : Nat} {bytes : ByteArray} {ret' : Option FieldType} {As rest : List Value} {f : Option (Int64 × ZS)} {K : Int64 × ZS → Option ρ} (X : ZX E V A own cc nL ret fr lo) (hC : zCS own index y bytes maxL ret' As.length) (hfr : fr' + 1 ≤ fr) (hlo : 8 + (maxL + 11) + lo' ≤ lo)
    (hM : ∀ p, f = some p → zMl E.2.1 y bytes maxL ret' fr' lo' V σ As p) (hst : st = As.reverse ++ rest) (hr : (rest.map fun v => v.category).sum ≤ 8) (d : decode cc pc = .ok (.invokestatic index, 3)) (hq : pc + 3 = q)
    (kk : ∀ p, ZJ E V A nL F q L (.long p.1 :: rest) p.2 (K p)) : ZJ E V A nL F pc L st σ (f.bind K) := by
  subst hq
  intro z hz H locs ls hl hP hS
  obtain ⟨p, hp, hz⟩ := Option.bind_eq_some_iff.mp hz
  refine va_calll (va_runS (As := As) (rest := rest) ⟨zx_x X, zx_c X, zx_m X, zx_o X, zx_t X⟩ (hM p hp) (va_cwS As.length (zx_t X) (zg_S hC) rfl rfl rfl hC.2 ⟨Nat.le_trans hfr (zx_f X), Nat.le_trans hlo (zx_w X)⟩) ⟨zPc_blind (zx_v X) σ _, fun U hU hW => zx_pre X hP hS _ U hU hW⟩ rfl rfl hl.1 hst (lv_room hr) d ⟨Nat.zero_le _, Nat.zero_le _⟩) hS (fun q _ h => zx_a X q h) (zx_a X) (fun r u t H1 locs1 ht hvm hp2 hB hz1 hk1 hS1 => ?_)
  obtain ⟨rfl, rfl⟩ := hp2
  exact kk p z hz H1 locs1 ls hl (by rw [← ht]; exact hB) hS1
theorem zj_cVNl (q q0 ci : Nat) {y : MethodName} {index maxL fr' lo' b N : Nat} {host : String} {bytes : ByteArray} {ret' : Option FieldType} {T : u_T} {fs As rest : List Value} {f : Option (Int64 × ZS)} {K : Int64 × ZS → Option ρ} (X : ZX E V A own cc nL ret fr lo) (hC : zCN own index y host bytes maxL ret' As.length) (hi : Cond.instanceMethod y ∈ lw_tbl) (hsel : Cond.selects y.cls y y ∈ lw_tbl) (hfr : fr' + 1 ≤ fr) (hlo : 8 + (maxL + 11) + lo' ≤ lo)
    (hM : ∀ p, f = some p → zMl E.2.1 y bytes maxL ret' fr' lo' V σ (.ref b :: As) p) (he : (V.1 σ)[q0]? = some (b, .inr (ci, fs))) (hc : V.2.2.1[ci]? = some (y.cls, T, N)) (hst : st = As.reverse ++ .ref b :: rest) (hr : (rest.map fun v => v.category).sum ≤ 8) (d : decode cc pc = .ok (.invokevirtual index, 3)) (hq : pc + 3 = q)
    (kk : ∀ p, ZJ E V A nL F q L (.long p.1 :: rest) p.2 (K p)) : ZJ E V A nL F pc L st σ (f.bind K) := by
  subst hq
  intro z hz H locs ls hl hP hS
  obtain ⟨p, hp, hz⟩ := Option.bind_eq_some_iff.mp hz
  refine va_calll (va_runVN (C := y.cls) (As := As) (rest := rest) ⟨zx_x X, zx_c X, zx_m X, zx_o X, zx_t X⟩ (hM p hp) ⟨va_cnB As.length (zx_t X) (zg_tail hC.1.2.2) rfl rfl rfl (zx_n X _ (zw_inN hC.1.1 rfl)) (zx_g X hC.1.2.1 rfl) hC.2 ⟨Nat.le_trans hfr (zx_f X), Nat.le_trans hlo (zx_w X)⟩, zx_g X hi rfl, zx_g X hsel rfl⟩ ⟨zPc_blind (zx_v X) σ _, va_recv (zx_k X) hP hc he, fun U hU hW => zx_pre X hP hS _ U hU hW⟩ rfl rfl hl.1 hst (lv_room hr) d ⟨Nat.zero_le _, Nat.zero_le _⟩) hS (fun q _ h => zx_a X q h) (zx_a X) (fun r u t H1 locs1 ht hvm hp2 hB hz1 hk1 hS1 => ?_)
  obtain ⟨rfl, rfl⟩ := hp2
  exact kk p z hz H1 locs1 ls hl (by rw [← ht]; exact hB) hS1
theorem zj_cSNl (q : Nat) {y : MethodName} {index maxL fr' lo' : Nat} {host : String} {bytes : ByteArray} {ret' : Option FieldType} {As rest : List Value} {f : Option (Int64 × ZS)} {K : Int64 × ZS → Option ρ} (X : ZX E V A own cc nL ret fr lo) (hC : zCN own index y host bytes maxL ret' As.length) (hi : Cond.static y ∈ lw_tbl) (hfr : fr' + 1 ≤ fr) (hlo : 8 + (maxL + 11) + lo' ≤ lo)
    (hM : ∀ p, f = some p → zMl E.2.1 y bytes maxL ret' fr' lo' V σ As p) (hst : st = As.reverse ++ rest) (hr : (rest.map fun v => v.category).sum ≤ 8) (d : decode cc pc = .ok (.invokestatic index, 3)) (hq : pc + 3 = q)
    (kk : ∀ p, ZJ E V A nL F q L (.long p.1 :: rest) p.2 (K p)) : ZJ E V A nL F pc L st σ (f.bind K) := by
  subst hq
  intro z hz H locs ls hl hP hS
  obtain ⟨p, hp, hz⟩ := Option.bind_eq_some_iff.mp hz
  refine va_calll (va_runSN (As := As) (rest := rest) ⟨zx_x X, zx_c X, zx_m X, zx_o X, zx_t X⟩ (hM p hp) ⟨va_cnB As.length (zx_t X) (zg_tail hC.1.2.2) rfl rfl rfl (zx_n X _ (zw_inN hC.1.1 rfl)) (zx_g X hC.1.2.1 rfl) hC.2 ⟨Nat.le_trans hfr (zx_f X), Nat.le_trans hlo (zx_w X)⟩, zx_g X hi rfl, trivial⟩ ⟨zPc_blind (zx_v X) σ _, fun U hU hW => zx_pre X hP hS _ U hU hW⟩ rfl rfl hl.1 hst (lv_room hr) d ⟨Nat.zero_le _, Nat.zero_le _⟩) hS (fun q _ h => zx_a X q h) (zx_a X) (fun r u t H1 locs1 ht hvm hp2 hB hz1 hk1 hS1 => ?_)
  obtain ⟨rfl, rfl⟩ := hp2
  exact kk p z hz H1 locs1 ls hl (by rw [← ht]; exact hB) hS1
theorem zj_cVv (q q0 ci : Nat) {y : MethodName} {index maxL fr' lo' b N : Nat} {bytes : ByteArray} {ret' : Option FieldType} {T : u_T} {fs As rest : List Value} {f : Option (ZS)} {K : ZS → Option ρ} (X : ZX E V A own cc nL ret fr lo) (hC : zCV own index y bytes maxL ret' As.length) (hfr : fr' + 1 ≤ fr) (hlo : 8 + (maxL + 11) + lo' ≤ lo)
    (hM : ∀ p, f = some p → zMv E.2.1 y bytes maxL ret' fr' lo' V σ (.ref b :: As) p) (he : (V.1 σ)[q0]? = some (b, .inr (ci, fs))) (hc : V.2.2.1[ci]? = some (y.cls, T, N)) (hst : st = As.reverse ++ .ref b :: rest) (hr : (rest.map fun v => v.category).sum ≤ 8) (d : decode cc pc = .ok (.invokevirtual index, 3)) (hq : pc + 3 = q)
    (kk : ∀ p, ZJ E V A nL F q L (rest) p (K p)) : ZJ E V A nL F pc L st σ (f.bind K) := by
  subst hq
  intro z hz H locs ls hl hP hS
  obtain ⟨p, hp, hz⟩ := Option.bind_eq_some_iff.mp hz
  refine va_callv (va_runV (C := y.cls) (As := As) (rest := rest) ⟨zx_x X, zx_c X, zx_m X, zx_o X, zx_t X⟩ (hM p hp) (cwV As.length (zx_t X) (zg_V hC) rfl rfl rfl ⟨rfl, hC.2⟩ ⟨Nat.le_trans hfr (zx_f X), Nat.le_trans hlo (zx_w X)⟩) ⟨zPc_blind (zx_v X) σ _, va_recv (zx_k X) hP hc he, fun U hU hW => zx_pre X hP hS _ U hU hW⟩ rfl rfl hl.1 hst (lv_room hr) d ⟨Nat.zero_le _, Nat.zero_le _⟩) hS (fun q _ h => zx_a X q h) (zx_a X) (fun u t H1 locs1 ht hvm hp2 hB hz1 hk1 hS1 => ?_)
  have hB := hB
  exact kk p z hz H1 locs1 ls hl (by rw [← ht]; rw [← hp2]; exact hB) hS1
theorem zj_cSv (q : Nat) {y : MethodName} {index maxL fr' lo' : Nat} {bytes : ByteArray} {ret' : Option FieldType} {As rest : List Value} {f : Option (ZS)} {K : ZS → Option ρ} (X : ZX E V A own cc nL ret fr lo) (hC : zCS own index y bytes maxL ret' As.length) (hfr : fr' + 1 ≤ fr) (hlo : 8 + (maxL + 11) + lo' ≤ lo)
    (hM : ∀ p, f = some p → zMv E.2.1 y bytes maxL ret' fr' lo' V σ As p) (hst : st = As.reverse ++ rest) (hr : (rest.map fun v => v.category).sum ≤ 8) (d : decode cc pc = .ok (.invokestatic index, 3)) (hq : pc + 3 = q)
    (kk : ∀ p, ZJ E V A nL F q L (rest) p (K p)) : ZJ E V A nL F pc L st σ (f.bind K) := by
  subst hq
  intro z hz H locs ls hl hP hS
  obtain ⟨p, hp, hz⟩ := Option.bind_eq_some_iff.mp hz
  refine va_callv (va_runS (As := As) (rest := rest) ⟨zx_x X, zx_c X, zx_m X, zx_o X, zx_t X⟩ (hM p hp) (va_cwS As.length (zx_t X) (zg_S hC) rfl rfl rfl hC.2 ⟨Nat.le_trans hfr (zx_f X), Nat.le_trans hlo (zx_w X)⟩) ⟨zPc_blind (zx_v X) σ _, fun U hU hW => zx_pre X hP hS _ U hU hW⟩ rfl rfl hl.1 hst (lv_room hr) d ⟨Nat.zero_le _, Nat.zero_le _⟩) hS (fun q _ h => zx_a X q h) (zx_a X) (fun u t H1 locs1 ht hvm hp2 hB hz1 hk1 hS1 => ?_)
  have hB := hB
  exact kk p z hz H1 locs1 ls hl (by rw [← ht]; rw [← hp2]; exact hB) hS1
theorem zj_cVNv (q q0 ci : Nat) {y : MethodName} {index maxL fr' lo' b N : Nat} {host : String} {bytes : ByteArray} {ret' : Option FieldType} {T : u_T} {fs As rest : List Value} {f : Option (ZS)} {K : ZS → Option ρ} (X : ZX E V A own cc nL ret fr lo) (hC : zCN own index y host bytes maxL ret' As.length) (hi : Cond.instanceMethod y ∈ lw_tbl) (hsel : Cond.selects y.cls y y ∈ lw_tbl) (hfr : fr' + 1 ≤ fr) (hlo : 8 + (maxL + 11) + lo' ≤ lo)
    (hM : ∀ p, f = some p → zMv E.2.1 y bytes maxL ret' fr' lo' V σ (.ref b :: As) p) (he : (V.1 σ)[q0]? = some (b, .inr (ci, fs))) (hc : V.2.2.1[ci]? = some (y.cls, T, N)) (hst : st = As.reverse ++ .ref b :: rest) (hr : (rest.map fun v => v.category).sum ≤ 8) (d : decode cc pc = .ok (.invokevirtual index, 3)) (hq : pc + 3 = q)
    (kk : ∀ p, ZJ E V A nL F q L (rest) p (K p)) : ZJ E V A nL F pc L st σ (f.bind K) := by
  subst hq
  intro z hz H locs ls hl hP hS
  obtain ⟨p, hp, hz⟩ := Option.bind_eq_some_iff.mp hz
  refine va_callv (va_runVN (C := y.cls) (As := As) (rest := rest) ⟨zx_x X, zx_c X, zx_m X, zx_o X, zx_t X⟩ (hM p hp) ⟨va_cnB As.length (zx_t X) (zg_tail hC.1.2.2) rfl rfl rfl (zx_n X _ (zw_inN hC.1.1 rfl)) (zx_g X hC.1.2.1 rfl) hC.2 ⟨Nat.le_trans hfr (zx_f X), Nat.le_trans hlo (zx_w X)⟩, zx_g X hi rfl, zx_g X hsel rfl⟩ ⟨zPc_blind (zx_v X) σ _, va_recv (zx_k X) hP hc he, fun U hU hW => zx_pre X hP hS _ U hU hW⟩ rfl rfl hl.1 hst (lv_room hr) d ⟨Nat.zero_le _, Nat.zero_le _⟩) hS (fun q _ h => zx_a X q h) (zx_a X) (fun u t H1 locs1 ht hvm hp2 hB hz1 hk1 hS1 => ?_)
  have hB := hB
  exact kk p z hz H1 locs1 ls hl (by rw [← ht]; rw [← hp2]; exact hB) hS1
theorem zj_cSNv (q : Nat) {y : MethodName} {index maxL fr' lo' : Nat} {host : String} {bytes : ByteArray} {ret' : Option FieldType} {As rest : List Value} {f : Option (ZS)} {K : ZS → Option ρ} (X : ZX E V A own cc nL ret fr lo) (hC : zCN own index y host bytes maxL ret' As.length) (hi : Cond.static y ∈ lw_tbl) (hfr : fr' + 1 ≤ fr) (hlo : 8 + (maxL + 11) + lo' ≤ lo)
    (hM : ∀ p, f = some p → zMv E.2.1 y bytes maxL ret' fr' lo' V σ As p) (hst : st = As.reverse ++ rest) (hr : (rest.map fun v => v.category).sum ≤ 8) (d : decode cc pc = .ok (.invokestatic index, 3)) (hq : pc + 3 = q)
    (kk : ∀ p, ZJ E V A nL F q L (rest) p (K p)) : ZJ E V A nL F pc L st σ (f.bind K) := by
  subst hq
  intro z hz H locs ls hl hP hS
  obtain ⟨p, hp, hz⟩ := Option.bind_eq_some_iff.mp hz
  refine va_callv (va_runSN (As := As) (rest := rest) ⟨zx_x X, zx_c X, zx_m X, zx_o X, zx_t X⟩ (hM p hp) ⟨va_cnB As.length (zx_t X) (zg_tail hC.1.2.2) rfl rfl rfl (zx_n X _ (zw_inN hC.1.1 rfl)) (zx_g X hC.1.2.1 rfl) hC.2 ⟨Nat.le_trans hfr (zx_f X), Nat.le_trans hlo (zx_w X)⟩, zx_g X hi rfl, trivial⟩ ⟨zPc_blind (zx_v X) σ _, fun U hU hW => zx_pre X hP hS _ U hU hW⟩ rfl rfl hl.1 hst (lv_room hr) d ⟨Nat.zero_le _, Nat.zero_le _⟩) hS (fun q _ h => zx_a X q h) (zx_a X) (fun u t H1 locs1 ht hvm hp2 hB hz1 hk1 hS1 => ?_)
  have hB := hB
  exact kk p z hz H1 locs1 ls hl (by rw [← ht]; rw [← hp2]; exact hB) hS1
end ZR
