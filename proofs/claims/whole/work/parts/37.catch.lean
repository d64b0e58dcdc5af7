/-! catching: the class of a catch clause may be looked up here for the first time -/
theorem tx_go {Q : Handler → Pre} {Ec : CtlPost} {e : Env} {d : Bool} {acts : List Action} {s : State} {f : JFrame} {a : Addr} {x : ExceptionTableEntry} {t : List ExceptionTableEntry} {c : ClassId} {cell : Cell} {vm' : Vm} (hx : covers x f.pc = true) (h0 : x.catchType ≠ 0)
    (hg : (Jvm.resolveClass f.method.cls x.catchType).Gives e.toSetting s.vm (.ok c) vm') (hcell : s.heap[a]? = some cell) (hobj : ∀ k, cell.vm ≠ .statics k) (hk : ∃ k, vm'.classes[cell.cls]? = some k) (hc : ∃ k, vm'.classes[c]? = some k) (hz : vm'.classes.size ≤ s.vm.classes.size) :
    wp (findHandler.go f a (x :: t)) Q Ec e d acts s ↔ if vm'.assignable cell.cls c = true then Q (.found x.handlerPc) d acts (s.setVm vm') else wp (findHandler.go f a t) Q Ec e d acts (s.setVm vm') := by
  simp only [covers] at hx
  obtain ⟨ha, ht⟩ := hg.op (op := VmOp.resolveClass f.method.cls x.catchType) rfl
  obtain ⟨k1, hk1⟩ := hk
  obtain ⟨k2, hk2⟩ := hc
  have hld := VmOp.lands_eq ht hz
  cases hfit : vm'.assignable cell.cls c <;> simp [findHandler.go, hld, hx, h0, ha, ht, hcell, hobj, hk1, hk2, hfit, VmOp.dirties, VmOp.acts]
/-- what the search gives, and the tables behind it -/
def tx_F (e : Env) (s : State) (f : JFrame) (a : Addr) (h : Handler) (vm' : Vm) : Prop :=
  ∀ (Q : Handler → Pre) (Ec : CtlPost) (d : Bool) (acts : List Action), wp (findHandler f a) Q Ec e d acts s ↔ Q h d acts (s.setVm vm')
theorem tx_catch {e : Env} {s : State} {a : Addr} {f : JFrame} {r : List Frame} {pc : Nat} {vm' : Vm} (hf : tx_F e s f a (.found pc) vm') : (stepThrowing e s a (.java f :: r)).1 = (s.setVm vm').setFrames (.java { f with pc := pc, stack := [.ref a] } :: r) := by
  simp only [stepThrowing, searchFrame, vmDo]
  generalize hr : Sem.go _ e false [] s = res
  obtain ⟨as, rfl, ha⟩ := Sem.eq_ok_of hr (a := Handler.found pc) (s' := s.setVm vm') (acts' := []) (by simp [hf _ _ _ _])
  rfl
theorem tx_caught {p : Program} {l : Launch} {e : Env} {R : Room} {s : State} {m : MethodId} {args : Array Value} {below : List Frame} {meth : Method} {c : Code} {T : State} {locs : List Loc} {cells slots : Nat} (X : Stand p l e R s m args below meth c T locs cells slots) (a : Addr) {g : JFrame} (hg : g.method = m) {pc : Nat} {vm' : Vm} (hf : tx_F e ((T.setTop g).pushFrame (.throwing a)) g a (.found pc) vm') {target : State}
    (hrest : Steps p.tables e below ((T.setVm vm').setTop { g with pc := pc, stack := [.ref a] }) target) : Steps p.tables e below ((T.setTop g).pushFrame (.throwing a)) target := by
  have h : At T g.method c below := by rw [hg]; exact X.here
  obtain ⟨hgo, hw⟩ := h.throwing a
  refine Steps.head hgo hw ?_
  rw [stepThread_throwing (frames_entered h.top _), tx_catch (s := (T.setTop g).pushFrame (.throwing a)) hf]
  obtain ⟨g₀, hr⟩ := X.frames_eq
  have hr' : (T.setVm vm').frames = .java g₀ :: below := hr
  rw [State.setTop_of_frames _ hr'] at hrest
  have key : ∀ (u : State) (F G : List Frame), ((u.setFrames F).setVm vm').setFrames G = (u.setVm vm').setFrames G := by
    intro u F G
    show (((u.setVm vm').setFrames F)).setFrames G = _
    rw [State.setFrames_setFrames]
  rw [hr, List.tail_cons, State.pushFrame, key, State.setTop_of_frames _ hr, key]
  exact hrest
section TC
variable {p : Program} {l : Launch} {e : Env} {R : Room} {s : State} {m : MethodId} {args : Array Value} {below : List Frame} {meth : Method} {c : Code} {T : State} {locs : List Loc} {cells slots : Nat}
/-- the first clause takes it -/
theorem tx_catch1 (X : Stand p l e R s m args below meth c T locs cells slots) (a : Addr) {g : JFrame} (hg : g.method = m) {own name cls : String} (hown : s.vm.findClass own = some m.cls) {x : ExceptionTableEntry} {rest : List ExceptionTableEntry} (htb : c.exceptionTable.toList = x :: rest) (hx : covers x g.pc = true) (h0 : x.catchType ≠ 0)
    (hlink : (Cond.classLink own x.catchType name).before args s = true) {cell : Cell} (hcell : T.heap[a]? = some cell) (hiss : cell.vm.isStatics = false) (hfc : T.vm.findClass cls = some cell.cls) (hcast : (Cond.castable cls name).before args s = true) :
    ∃ vm', Stand p l e R s m args below meth c (T.setVm vm') locs cells slots ∧ ∀ target, Steps p.tables e below ((T.setVm vm').setTop { g with pc := x.handlerPc, stack := [.ref a] }) target → Steps p.tables e below ((T.setTop g).pushFrame (.throwing a)) target := by
  have hpl : e.platform.magicAccessors = ({} : Platform).magicAccessors := by rw [X.admits.platform]
  obtain ⟨cT, hcT, hcl⟩ := Cond.classLink_spec hown hlink e.platform hpl
  obtain ⟨hg₁, hW₁, -⟩ := State.classEntry (e := e) X.warmed hcl
  obtain ⟨c1, c2, q1, q2, q3⟩ := Cond.castable_spec hcast
  cases hcT.symm.trans q2
  have hfs : s.vm.findClass cls = some cell.cls := by rw [← X.warmed.alike.findClass]; exact hfc
  cases hfs.symm.trans q1
  generalize T.vm.noted m.cls x.catchType (.cls cT) = vm₁ at hg₁ hW₁
  have al := hW₁.alike
  refine ⟨vm₁, X.noted hW₁, fun target ht => tx_caught X a hg (vm' := vm₁) ?_ ht⟩
  intro Q Ec d acts
  rw [W.findHandler_eq (s := (T.setTop g).pushFrame (.throwing a)) (f := g) (meth := meth) (code := c) (by rw [hg]; exact X.method') X.code, htb, tx_go (s := (T.setTop g).pushFrame (.throwing a)) (cell := cell) (c := cT) (vm' := vm₁) hx h0 (by rw [hg]; exact hg₁) hcell (VmData.ne_statics_of hiss) (Vm.classAt_of_findClass (name := cls) (by rw [al.findClass]; exact hfs)) (Vm.classAt_of_findClass (name := name) (by rw [al.findClass]; exact hcT)) (by show vm₁.classes.size ≤ T.vm.classes.size; have h1 := al.2.1; have h2 := X.warmed.alike.2.1; omega), if_pos (by rw [al.assignable]; exact q3)]
/-- the second clause takes it -/
theorem tx_catch2 (X : Stand p l e R s m args below meth c T locs cells slots) (a : Addr) {g : JFrame} (hg : g.method = m) {own name name2 cls : String} (hown : s.vm.findClass own = some m.cls) {x y : ExceptionTableEntry} {rest : List ExceptionTableEntry} (htb : c.exceptionTable.toList = x :: y :: rest) (hx : covers x g.pc = true) (h0 : x.catchType ≠ 0) (hy : covers y g.pc = true) (hy0 : y.catchType ≠ 0)
    (hlink : (Cond.classLink own x.catchType name).before args s = true) (hlink2 : (Cond.classLink own y.catchType name2).before args s = true) {cell : Cell} (hcell : T.heap[a]? = some cell) (hiss : cell.vm.isStatics = false) (hfc : T.vm.findClass cls = some cell.cls) (hnc : ∀ c1 c2, s.vm.findClass cls = some c1 → s.vm.findClass name = some c2 → s.vm.assignable c1 c2 = false) (hcast : (Cond.castable cls name2).before args s = true) :
    ∃ vm', Stand p l e R s m args below meth c (T.setVm vm') locs cells slots ∧ ∀ target, Steps p.tables e below ((T.setVm vm').setTop { g with pc := y.handlerPc, stack := [.ref a] }) target → Steps p.tables e below ((T.setTop g).pushFrame (.throwing a)) target := by
  have hpl : e.platform.magicAccessors = ({} : Platform).magicAccessors := by rw [X.admits.platform]
  obtain ⟨cT, hcT, hcl⟩ := Cond.classLink_spec hown hlink e.platform hpl
  obtain ⟨cT2, hcT2, hcl2⟩ := Cond.classLink_spec hown hlink2 e.platform hpl
  obtain ⟨hg₁, hW₁, -⟩ := State.classEntry (e := e) X.warmed hcl
  obtain ⟨c1, c2, q1, q2, q3⟩ := Cond.castable_spec hcast
  cases hcT2.symm.trans q2
  have hfs : s.vm.findClass cls = some cell.cls := by rw [← X.warmed.alike.findClass]; exact hfc
  cases hfs.symm.trans q1
  generalize T.vm.noted m.cls x.catchType (.cls cT) = vm₁ at hg₁ hW₁
  have al := hW₁.alike
  have X₁ := X.noted hW₁
  obtain ⟨hg₂, hW₂, -⟩ := State.classEntry (e := e) X₁.warmed hcl2
  generalize (T.setVm vm₁).vm.noted m.cls y.catchType (.cls cT2) = vm₂ at hg₂ hW₂
  have al2 := hW₂.alike
  refine ⟨vm₂, X.noted hW₂, fun target ht => tx_caught X a hg (vm' := vm₂) ?_ ht⟩
  intro Q Ec d acts
  rw [W.findHandler_eq (s := (T.setTop g).pushFrame (.throwing a)) (f := g) (meth := meth) (code := c) (by rw [hg]; exact X.method') X.code, htb, tx_go (s := (T.setTop g).pushFrame (.throwing a)) (cell := cell) (c := cT) (vm' := vm₁) hx h0 (by rw [hg]; exact hg₁) hcell (VmData.ne_statics_of hiss) (Vm.classAt_of_findClass (name := cls) (by rw [al.findClass]; exact hfs)) (Vm.classAt_of_findClass (name := name) (by rw [al.findClass]; exact hcT)) (by show vm₁.classes.size ≤ T.vm.classes.size; have h1 := al.2.1; have h2 := X.warmed.alike.2.1; omega), if_neg (by rw [al.assignable, hnc _ _ hfs hcT]; decide)]
  rw [tx_go (s := ((T.setTop g).pushFrame (.throwing a)).setVm vm₁) (cell := cell) (c := cT2) (vm' := vm₂) hy hy0 (by rw [hg]; exact hg₂) hcell (VmData.ne_statics_of hiss) (Vm.classAt_of_findClass (name := cls) (by rw [al2.findClass]; exact hfs)) (Vm.classAt_of_findClass (name := name2) (by rw [al2.findClass]; exact hcT2)) (by show vm₂.classes.size ≤ vm₁.classes.size; have h1 := al.2.1; have h2 := al2.2.1; omega), if_pos (by rw [al2.assignable]; exact q3)]
  rfl
end TC
