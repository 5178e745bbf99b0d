/-! A call that may end by a throw; a catch whose class may still be unresolved. -/
def zt_Finds (e : Env) (s s' : State) (f : JFrame) (a : Addr) (h : Handler) : Prop :=
  ∀ (Q : Handler → Pre) (E : CtlPost) (d : Bool) (acts : List Action), wp (findHandler f a) Q E e d acts s ↔ Q h d acts s'
theorem zt_catchCold {e : Env} {s : State} {f : JFrame} {a : Addr} {meth : Method} {code : Code} (hm : s.vm.method? f.method = some meth) (hc : meth.code = some code) (x : ClassFile.ExceptionTableEntry) (hsplit : code.exceptionTable.toList = [x])
    (hx : covers x f.pc = true) (h0 : x.catchType ≠ 0) {c : ClassId} {vm' : Vm} (hg : (Jvm.resolveClass f.method.cls x.catchType).Gives e.toSetting s.vm (.ok c) vm') (hsz : vm'.classes.size ≤ s.vm.classes.size) {cell : Cell} (hcell : s.heap[a]? = some cell) (hobj : ∀ k, cell.vm ≠ .statics k)
    (hk : ∃ k, vm'.classes[cell.cls]? = some k) (hcl : ∃ k, vm'.classes[c]? = some k) (hfit : vm'.assignable cell.cls c = true) : zt_Finds e s (s.setVm vm') f a (.found x.handlerPc) := by
  intro Q E d acts
  rw [W.findHandler_eq hm hc, hsplit]
  simp only [covers] at hx
  obtain ⟨ha, ht⟩ := hg.op (op := VmOp.resolveClass f.method.cls x.catchType) rfl
  simp [findHandler.go, hx, h0, ha, ht, hsz, hcell, hobj, hk, hcl, hfit, VmOp.dirties, VmOp.acts]
theorem zt_stepCatch {e : Env} {s : State} {vm' : Vm} {a : Addr} {f : JFrame} {r : List Frame} {pc : Nat} (hfind : zt_Finds e s (s.setVm vm') f a (.found pc)) :
    (stepThrowing e s a (.java f :: r)).Is ((s.setVm vm').setFrames (.java { f with pc := pc, stack := [.ref a] } :: r)) [] := by
  simp only [stepThrowing, searchFrame, vmDo]
  generalize hr : Sem.go _ e false [] s = res
  obtain ⟨as, rfl, ha⟩ := Sem.eq_ok_of hr (a := Handler.found pc) (s' := s.setVm vm') (acts' := []) (by simp [hfind _ _ _ _])
  exact ⟨rfl, ha⟩
theorem zt_caught {tb : Tables} {e : Env} {s target : State} {g : JFrame} {c : Code} {below : List Frame} {a : Addr} {vm' : Vm} {pc : Nat} (h : At s g.method c below) (hfind : zt_Finds e ((s.setTop g).pushFrame (.throwing a)) (((s.setTop g).pushFrame (.throwing a)).setVm vm') g a (.found pc))
    (hrest : Steps tb e below ((s.setVm vm').setTop { g with pc := pc, stack := [.ref a] }) target) : Steps tb e below ((s.setTop g).pushFrame (.throwing a)) target := by
  obtain ⟨hgo, hw⟩ := h.throwing a
  refine Steps.head hgo hw ?_
  rw [stepThread_throwing (frames_entered h.top _), (zt_stepCatch (s := (s.setTop g).pushFrame (.throwing a)) hfind).1]
  obtain ⟨g₀, hg⟩ := Option.isSome_iff_exists.mp h.top
  obtain ⟨r, hr⟩ := State.topJava?_eq_some.mp hg
  have hr' : (s.setVm vm').frames = .java g₀ :: r := hr
  rw [State.setTop_of_frames _ hr'] at hrest
  have e1 : (((s.setTop g).pushFrame (.throwing a)).setVm vm').setFrames (.java { g with pc := pc, stack := [.ref a] } :: s.frames.tail) = (s.setVm vm').setFrames (.java { g with pc := pc, stack := [.ref a] } :: r) := by
    rw [hr, State.pushFrame, State.setTop_of_frames _ hr, State.setFrames_setFrames]
    show ((s.setVm vm').setFrames _).setFrames _ = _
    rw [State.setFrames_setFrames]
    rfl
  rw [e1]
  exact hrest
/-- a call of a method by a contract that ends either way: the caller's state behind it, and how the machine goes on -/
theorem zt_go {p : Program} {l : Launch} {e : Env} {R : Room} {s : State} {m : MethodId} {args : Array Value} {below : List Frame} {meth : Method} {c : Code} {U : State} {locs : List Loc} {cells slots : Nat}
    (X : Stand p l e R s m args below meth c U locs cells slots) {g : JFrame} (hg : g.method = m) (hsize : g.locals.size = c.maxLocals) {ig : Instr} {len : Nat} (hdg : decode c.code g.pc = .ok (ig, len)) (hW : 2 * g.monitorRoom + (g.stack.map fun v => v.category).sum ≤ 8)
    {y : MethodName} {mk : MethodId} (hn : U.methodNamed? y = some mk) {bytes : ByteArray} {maxL fr lo sz : Nat} {ret : Option FieldType} {V : ZV} {σ : ZS} {av : List Value} {z : Option Int32 × ZS} (hM : zMt l y bytes maxL ret fr lo V σ sz av z)
    (hws : ∀ w ∈ Cond.code y bytes maxL ret :: zw_w, w.before av.toArray U = true) (hini : (Cond.initialized y.cls).before av.toArray U = true) (hfr : fr + 1 ≤ R.frames) (hlo : 8 + (maxL + 11) + lo ≤ R.locals) (hcl : cells + 1 ≤ R.cells) (hsl : slots + 6 ≤ R.slots) (hP : zPt V σ sz av av.toArray (U.calling g mk av.toArray)) :
    ∃ (o : Outcome) (t B : State) (L : List Loc), zQt V (zA V sz) z av.toArray (U.calling g mk av.toArray) o t ∧ B.heap = t.heap ∧ B.vm = t.vm ∧ Stand p l e R s m args below meth c B (locs ++ L) (cells + 1) (slots + 6) ∧ (∀ q ∈ L, zA V sz q.base) ∧
      ((∃ v, o = .returned v ∧ Steps p.tables e below (doInvoke e (U.setTop g) [] mk av.toArray).1 (B.setTop { g with pc := g.pc + len, stack := v.toList ++ g.stack })) ∨
       ∃ ad, o = .threw ad ∧ Steps p.tables e below (doInvoke e (U.setTop g) [] mk av.toArray).1 ((B.setTop g).pushFrame (.throwing ad))) := by
  have hcode := hws _ List.mem_cons_self
  obtain ⟨methY, cY, hmY, hcY, -, hlY, -, -, -, -⟩ := Cond.code_spec hn hcode
  obtain ⟨kY, hkY, -⟩ := className_of_methodNamed hn
  have hinitY : kY.init = .initialized := Cond.initialized_spec (findClass_of_methodNamed hn) hkY hini
  have h : At U g.method c below := by rw [hg]; exact X.here
  have happ : (headSpec (Cond.code y bytes maxL ret :: zw_w) ({ frames := fr, cells := 1, slots := 6, locals := lo })).appliesLoose y e.platform (U.calling g mk av.toArray) = true :=
    Spec.appliesLoose_calling (g := g) h hdg hn hkY hinitY (X.room_calling (g := g) (R' := { frames := fr, cells := 1, slots := 6, locals := lo }) hsize hmY hcY hfr (by rw [hlY]; show _ + _ + lo ≤ _; omega) hcl hsl) (atoms_intro hws)
  obtain ⟨mid, hmid⟩ := h.above
  have hfrm : (U.setTop g).frames = (.java g :: mid) ++ below := by rw [State.frames_setTop' g h.top, hmid]; rfl
  obtain ⟨o, t, hsteps, -, hend, hq⟩ := Steps.callFree hM p X.admits X.cas X.clock (acts := []) hfrm happ hP trivial
  have hq' : zQt V (zA V sz) z av.toArray (U.calling g mk av.toArray) o t := hq
  rw [State.frames_setTop' g h.top] at hend
  obtain ⟨ho, -, -, hW2, L, ⟨e2, q2, q3, q4, q5, q6⟩, hL⟩ := id hq'
  obtain ⟨g₀, hg0⟩ := Option.isSome_iff_exists.mp h.top
  obtain ⟨r, hr⟩ := State.topJava?_eq_some.mp hg0
  have hW' : U.WarmedH t.vm := hW2
  have e3a : t = ({ (U.calling g mk av.toArray).setFrames t.frames with heap := t.heap, slotsUsed := t.slotsUsed } : State).setVm t.vm := by
    have h1 : t = ({ t with vm := (U.calling g mk av.toArray).vm } : State).setVm t.vm := rfl
    rw [e2] at h1
    exact h1
  have e3 : t = (({ U with heap := t.heap, slotsUsed := t.slotsUsed } : State).setVm t.vm).setFrames t.frames := by
    refine e3a.trans ?_
    rw [State.calling_eq h.top, State.setFrames_setFrames]
    rfl
  have hsame : U.sameButNew ({ U with heap := t.heap, slotsUsed := t.slotsUsed } : State) L 1 6 := by
    refine ⟨?_, q2, q3, q4, q5, q6⟩
    obtain ⟨t', ht', -⟩ := State.frames_cons hr
    show ({ U with heap := t.heap, slotsUsed := t.slotsUsed } : State) = { U.setFrames U.frames with heap := t.heap, slotsUsed := t.slotsUsed }
    rw [State.setFrames_self ht']
  have hB : Stand p l e R s m args below meth c (({ U with heap := t.heap, slotsUsed := t.slotsUsed } : State).setVm t.vm) (locs ++ L) (cells + 1) (slots + 6) :=
    ⟨X.admits, X.cas, X.clock, X.frames, X.room, X.hears, X.method, X.code, (X.here.setHeapUsed t.heap t.slotsUsed).setVm hW'.alike, X.tail, State.WarmedH.trans X.warmed hW', X.limits, X.bytes, X.same.trans (hsame.setVm s.vm)⟩
  have hr' : (({ U with heap := t.heap, slotsUsed := t.slotsUsed } : State).setVm t.vm).frames = .java g₀ :: r := hr
  refine ⟨o, t, ({ U with heap := t.heap, slotsUsed := t.slotsUsed } : State).setVm t.vm, L, hq', rfl, rfl, hB, hL, ?_⟩
  rcases ho with ⟨v, hz, rfl⟩ | ⟨hz, ad, ce, rfl, -⟩
  · left
    refine ⟨some (.int v), rfl, ?_⟩
    obtain ⟨c₂, i₂, len₂, hc₂, hd₂, hf₂⟩ := hend
    have hcc : c₂ = c := by
      have h1 : t.code? g.method = U.code? g.method := by rw [State.code?_eq, State.code?_eq, hW'.alike.method?]
      exact Option.some.inj (hc₂.symm.trans (h1.trans h.code))
    subst hcc
    have hlen : len₂ = len := by rw [hdg] at hd₂; cases hd₂; rfl
    subst hlen
    rw [State.setTop_of_frames _ hr']
    have e4 : t.frames = .java { g with pc := g.pc + len₂, stack := (some (Value.int v)).toList ++ g.stack } :: r := by rw [hf₂, hr]; rfl
    rw [e4] at e3
    rw [← e3]
    exact hsteps
  · right
    refine ⟨ad, rfl, ?_⟩
    have hf₂ : t.frames = .throwing ad :: (.java g :: U.frames.tail) := hend
    rw [State.setTop_of_frames _ hr', State.pushFrame, State.setFrames_setFrames]
    have e5 : ((({ U with heap := t.heap, slotsUsed := t.slotsUsed } : State).setVm t.vm).setFrames (.java g :: r)).frames = .java g :: r := State.frames_setFrames _ (State.cur_lt_of_frames hr')
    rw [e5]
    have e4 : t.frames = .throwing ad :: .java g :: r := by rw [hf₂, hr]; rfl
    rw [e4] at e3
    rw [← e3]
    exact hsteps
