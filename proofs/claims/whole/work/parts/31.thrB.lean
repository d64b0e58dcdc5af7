/-! throws: from 'new' to the method's end by athrow -/
section TB
variable {p : Program} {l : Launch} {e : Env} {R : Room} {s : State} {m : MethodId} {args : Array Value} {below : List Frame} {meth : Method} {c : Code} {T : State} {locs : List Loc}
theorem tx_same {s' t : State} {n k : Nat} (h : s'.sameButNew t [] n k) {q : Nat} (hq : q < s'.heap.size) : t.heap[q]? = s'.heap[q]? := by
  obtain ⟨c', h1, h2, h3, h4⟩ := h.2.2.2.2.2 q s'.heap[q] (Array.getElem?_eq_getElem hq)
  rw [h1, Array.getElem?_eq_getElem hq, h2]
  congr 2
  apply Array.ext_getElem?
  intro i
  exact h4 i (by simp)
theorem tm_throw (X : Stand p l e R s m args below meth c T locs 0 0) (hexec : p.tables.exec = Jvm.exec) (htr : e.platform.stackTraces = false) {own cls tx : String} {icl ist ic q : Nat} {cc : ByteArray} (hb : c.code = cc)
    (hown : T.vm.findClass own = some m.cls) (hcls : Bundle.fit cls = true) (hat : ∀ (a : Array Value) (U : State), U.vm = T.vm → U.heap = T.heap → ∀ w ∈ Bundle.ownAtoms own ic cls tx_N, w.before a U = true)
    (hcl : ∀ (a : Array Value) (U : State), U.vm = T.vm → (Cond.classLink own icl cls).before a U = true) (hini : ∀ (a : Array Value) (U : State), U.vm = T.vm → (Cond.initialized cls).before a U = true)
    (hstr : vk_R own ist tx q T) (hc1 : 1 ≤ R.cells) (hs6 : 6 ≤ R.slots) (hfr : 6 ≤ R.frames) (hlo : 82 ≤ R.locals) (hout : c.exceptionTable.toList = []) (hlocks : meth.locks = false)
    {pc : Nat} {ls : Array Slot} (hsz : ls.size = c.maxLocals) (d0 : decode cc pc = .ok (.new icl, 3)) (d3 : decode cc (pc + 3) = .ok (.dup, 1)) (d4 : decode cc (pc + 3 + 1) = .ok (.ldc ist, 2)) (d6 : decode cc (pc + 3 + 1 + 2) = .ok (.invokespecial ic, 3)) (d9 : decode cc (pc + 3 + 1 + 2 + 3) = .ok (.athrow, 1)) :
    ∃ (U : State) (a : Nat) (ce : Cell), Steps p.tables e below (T.setTop (F0 m pc ls [])) U ∧ U.status = .running ∧ Ended U below (.threw a) ∧ T.WarmedH U.vm ∧ s.sameButNew ({ U with vm := s.vm } : State) locs 1 6 ∧ T.heap.size ≤ U.heap.size ∧ (∀ j : Nat, j < T.heap.size → U.heap[j]? = T.heap[j]?) ∧ U.heap[a]? = some ce ∧ ce.vm.isStatics = false ∧ T.vm.findClass cls = some ce.cls := by
  have X' := tx_anew X
  have K : W p l e R (T.setFrames (.invoking m args :: below)) m args below meth c T.heap [] 0 0 (fun t => ∃ (a : Nat) (ce : Cell), t.status = .running ∧ Ended t below (.threw a) ∧ T.WarmedH t.vm ∧ (T.setFrames (.invoking m args :: below)).sameButNew ({ t with vm := T.vm } : State) [] 1 6 ∧ t.heap[a]? = some ce ∧ ce.vm.isStatics = false ∧ T.vm.findClass cls = some ce.cls) (F0 m pc ls []) := by
    have ha := hat args (T.setFrames (.invoking m args :: below)) rfl rfl
    refine W.newc (s := T.setFrames (.invoking m args :: below)) (args := args) (cc := cc) (own := own) (C := cls) (index := icl) (n := 6) hexec hb hown (hcl args (T.setFrames (.invoking m args :: below)) rfl) (ha (.instantiable cls 6) (by simp [Bundle.ownAtoms])) (hini args (T.setFrames (.invoking m args :: below)) rfl) (g := F0 m pc ls []) rfl d0 (by omega) (by omega) (fun cC kC h1 h2 h3 h4 => ?_)
    refine lv_dup (cc := cc) hexec hb d3 rfl ?_
    refine va_ldcS (cc := cc) (own := own) (tx := tx) (index := ist) (q := q) hexec hb hown (vk_R.same (u := T) rfl hstr) d4 ?_
    intro T2 hT2 X2
    obtain ⟨U, hst, hrun, hend, hW, hsame, ce, hce, hO⟩ := X2.ctorThrowS hexec htr (own := own) (cls := cls) (names := tx_N) (ic := ic) hown hcls (by decide) ha (fun x hx => by cases hx) (a := T.heap.size) (cX := cC) (kX := kC) h1 h2 (by rw [hT2, Array.getElem?_push_size]) (Nat.le_refl _) (msg := .ref q) rfl (g := F0 m (pc + 3 + 1 + 2) ls [.ref q, .ref T.heap.size, .ref T.heap.size]) rfl hsz rfl rfl (rest := []) rfl (by rw [hb]; exact d6) (by rw [hb]; exact d9) (by rw [hout]; intro x hx; cases hx) (by show 2 + 3 < R.frames; omega) (by show 2 * 0 + (1 + 0) + (13 * (2 + 1) + 42) ≤ R.locals; omega) hlocks
    exact ⟨U, hst, T.heap.size, ce, hrun, hend, hW, hsame, hce, by rw [hO.vm]; rfl, hO.cls⟩
  obtain ⟨t, hst, a, ce, hrun, hend, hW, hsame, hce, hst2, hfc⟩ := K T rfl X'
  have hsm : T.sameButNew ({ t with vm := T.vm } : State) [] 1 6 := by
    refine ⟨?_, hsame.2⟩
    have h1 := hsame.1
    rw [State.setFrames_setFrames] at h1
    exact h1
  refine ⟨t, a, ce, hst, hrun, hend, hW, ?_, hsame.2.1, fun j hj => tx_same hsame hj, hce, hst2, hfc⟩
  have h2 := X.same.trans (hsm.setVm s.vm)
  rw [List.append_nil] at h2
  exact h2
/-- a call of an object's method by a free contract, however it ends -/
theorem tm_runV {cells slots : Nat} (X : Stand p l e R s m args below meth c T locs cells slots) (hexec : p.tables.exec = Jvm.exec) {own C : String} {index : Nat} {y : MethodName} {bytes : ByteArray} {maxL : Nat} {ret : Option FieldType} {ws : List Cond} {rm : Room} {Pc : Array Value → State → Prop} {Qc : Array Value → State → Outcome → State → Prop}
    (hM : MetFree l y (headSpec ws rm) Pc (fun _ _ _ _ _ => True) Qc) (hblind : FrameBlind Pc) (hfr : rm.frames + 1 ≤ R.frames) (hlo : 8 + (maxL + 11) + rm.locals ≤ R.locals) (hws : ∀ w ∈ ws, ∀ (a' : Array Value) (U : State), s.WarmedH U.vm → w.before a' U = true)
    (hown : s.vm.findClass own = some m.cls) (hlink : (Cond.methodLink own index y).before args s = true) (hinst : (Cond.instanceMethod y).before args s = true) (hsel : (Cond.selects C y y).before args s = true)
    (hcode : (Cond.code y bytes maxL ret).before args s = true) (hini : (Cond.initialized y.cls).before args s = true) (hy : y.cls ≠ "java/lang/invoke/MethodHandle" ∧ y.cls ≠ "java/lang/invoke/VarHandle")
    {b : Addr} {cellB : Cell} (hcell : T.heap[b]? = some cellB) (hobj : cellB.vm.isStatics = false) (hcls : s.vm.findClass C = some cellB.cls)
    {g : JFrame} (hg : g.method = m) (hsize : g.locals.size = c.maxLocals) {argsL rest : List Value} (hlen : ∀ sig, parseMethodDescriptor y.desc = some sig → argsL.length = sig.parameters.length)
    (hstack : g.stack = argsL.reverse ++ .ref b :: rest) (hW : 2 * g.monitorRoom + (rest.map fun v => v.category).sum ≤ 8) (hdg : decode c.code g.pc = .ok (.invokevirtual index, 3))
    (hcs : cells + rm.cells ≤ R.cells) (hss : slots + rm.slots ≤ R.slots) (hPc : ∀ vm₁, s.WarmedH vm₁ → Pc (Value.ref b :: argsL).toArray (T.setVm vm₁)) :
    ∃ (vm₁ : Vm) (mk : MethodId) (o : Outcome) (t : State), Stand p l e R s m args below meth c (T.setVm vm₁) locs cells slots ∧ Ended t (.java { g with stack := rest } :: below) o ∧ Qc (Value.ref b :: argsL).toArray ((T.setVm vm₁).calling { g with stack := rest } mk (Value.ref b :: argsL).toArray) o t ∧
      ∀ target, Steps p.tables e below t target → Steps p.tables e below (T.setTop g) target := by
  obtain ⟨mk, methM, hnamed, hmethM, hstM, habM⟩ := Cond.instanceMethod_spec hinst
  obtain ⟨methM', cM, hmethM', hcM, -, hlM, -, -, -, hsigM⟩ := Cond.code_spec hnamed hcode
  cases hmethM.symm.trans hmethM'
  obtain ⟨c2, r2, m2, q1, q2, q3, q4, kP, hkP, hkPi⟩ := Cond.selects_spec hsel
  cases hcls.symm.trans q1
  cases (State.methodFound?_of_named hnamed hy).symm.trans q2
  cases hnamed.symm.trans q3
  have hselP : selectMethod e.platform s.vm cellB.cls mk = .method mk := by rw [Launch.admits_selectMethod X.admits]; exact q4
  obtain ⟨vm₁, X₁, hstep₁⟩ := X.invokevirtual hexec hown hlink hnamed hmethM hstM hkP hkPi hy (a := b) (cell := cellB) hcell
    (fun z h => by rw [h] at hobj; cases hobj) hselP hmethM habM hkP hkPi (g := g) hg (argsL := argsL) (rest := rest) (hlen _ hsigM) hstack hdg
  have hn := X₁.named hnamed
  obtain ⟨kY, hkY, -⟩ := className_of_methodNamed hn
  have hini' : (Cond.initialized y.cls).before args (T.setVm vm₁) = true := word_at X₁.warmed (Or.inl (by first | rfl | simp [Cond.onTables, Cond.keeps, Cond.steady])) hini
  have hinitY : kY.init = .initialized := Cond.initialized_spec (findClass_of_methodNamed hn) hkY hini'
  have h : At (T.setVm vm₁) ({ g with stack := rest } : JFrame).method c below := by show At (T.setVm vm₁) g.method c below; rw [hg]; exact X₁.here
  have hmY : (T.setVm vm₁).vm.method? mk = some methM := by rw [X₁.warmed.alike.method?]; exact hmethM
  have happ : (headSpec ws rm).appliesLoose y e.platform ((T.setVm vm₁).calling { g with stack := rest } mk (Value.ref b :: argsL).toArray) = true :=
    Spec.appliesLoose_calling (g := { g with stack := rest }) h hdg hn hkY hinitY
      (X₁.room_calling (g := { g with stack := rest }) (R' := rm) hsize hmY hcM hfr (by rw [hlM]; show 2 * g.monitorRoom + (rest.map fun v => v.category).sum + (maxL + 11) + rm.locals ≤ R.locals; omega) hcs hss) (atoms_intro fun w hw => hws w hw _ _ X₁.warmed)
  obtain ⟨mid, hmid⟩ := h.above
  have hfr2 : ((T.setVm vm₁).setTop { g with stack := rest }).frames = (.java { g with stack := rest } :: mid) ++ below := by rw [State.frames_setTop' _ h.top, hmid]; rfl
  obtain ⟨o, s₂, hsteps, -, hend, hq⟩ := Steps.callFree hM p X.admits X.cas X.clock (acts := []) hfr2 happ (hblind _ _ _ _ (hPc vm₁ X₁.warmed)) trivial
  rw [State.frames_setTop' _ h.top, X₁.tail] at hend
  exact ⟨vm₁, mk, o, s₂, X₁, hend, hq, fun target ht => hstep₁ _ fun acts => by rw [doInvoke_state]; exact hsteps.trans ht⟩
theorem tm_runS {cells slots : Nat} (X : Stand p l e R s m args below meth c T locs cells slots) (hexec : p.tables.exec = Jvm.exec) {own : String} {index : Nat} {y : MethodName} {bytes : ByteArray} {maxL : Nat} {ret : Option FieldType} {ws : List Cond} {rm : Room} {Pc : Array Value → State → Prop} {Qc : Array Value → State → Outcome → State → Prop}
    (hM : MetFree l y (headSpec ws rm) Pc (fun _ _ _ _ _ => True) Qc) (hblind : FrameBlind Pc) (hfr : rm.frames + 1 ≤ R.frames) (hlo : 8 + (maxL + 11) + rm.locals ≤ R.locals) (hws : ∀ w ∈ ws, ∀ (a' : Array Value) (U : State), s.WarmedH U.vm → w.before a' U = true)
    (hown : s.vm.findClass own = some m.cls) (hlink : (Cond.methodLink own index y).before args s = true) (hstat : (Cond.static y).before args s = true)
    (hcode : (Cond.code y bytes maxL ret).before args s = true) (hini : (Cond.initialized y.cls).before args s = true) (hy : y.cls ≠ "java/lang/invoke/MethodHandle" ∧ y.cls ≠ "java/lang/invoke/VarHandle")
    {g : JFrame} (hg : g.method = m) (hsize : g.locals.size = c.maxLocals) {argsL rest : List Value} (hlen : ∀ sig, parseMethodDescriptor y.desc = some sig → argsL.length = sig.parameters.length)
    (hstack : g.stack = argsL.reverse ++ rest) (hW : 2 * g.monitorRoom + (rest.map fun v => v.category).sum ≤ 8) (hdg : decode c.code g.pc = .ok (.invokestatic index, 3))
    (hcs : cells + rm.cells ≤ R.cells) (hss : slots + rm.slots ≤ R.slots) (hPc : ∀ vm₁, s.WarmedH vm₁ → Pc argsL.toArray (T.setVm vm₁)) :
    ∃ (vm₁ : Vm) (mk : MethodId) (o : Outcome) (t : State), Stand p l e R s m args below meth c (T.setVm vm₁) locs cells slots ∧ Ended t (.java { g with stack := rest } :: below) o ∧ Qc argsL.toArray ((T.setVm vm₁).calling { g with stack := rest } mk argsL.toArray) o t ∧
      ∀ target, Steps p.tables e below t target → Steps p.tables e below (T.setTop g) target := by
  obtain ⟨mk, hnamed⟩ := Cond.code_named hcode
  obtain ⟨methM, cM, hmethM, hcM, -, hlM, -, -, -, hsigM⟩ := Cond.code_spec hnamed hcode
  have hstatic : methM.isStatic = true := Cond.static_spec hnamed hmethM hstat
  obtain ⟨kP, hkP, -⟩ := className_of_methodNamed hnamed
  have hinitP : kP.init = .initialized := Cond.initialized_spec (findClass_of_methodNamed hnamed) hkP hini
  obtain ⟨vm₁, X₁, hstep₁⟩ := X.invokestatic hexec hown hlink hnamed hmethM hstatic hkP hinitP hy (g := g) hg (argsL := argsL) (rest := rest) (hlen _ hsigM) hstack hdg
  have hn := X₁.named hnamed
  obtain ⟨kY, hkY, -⟩ := className_of_methodNamed hn
  have hini' : (Cond.initialized y.cls).before args (T.setVm vm₁) = true := word_at X₁.warmed (Or.inl (by first | rfl | simp [Cond.onTables, Cond.keeps, Cond.steady])) hini
  have hinitY : kY.init = .initialized := Cond.initialized_spec (findClass_of_methodNamed hn) hkY hini'
  have h : At (T.setVm vm₁) ({ g with stack := rest } : JFrame).method c below := by show At (T.setVm vm₁) g.method c below; rw [hg]; exact X₁.here
  have hmY : (T.setVm vm₁).vm.method? mk = some methM := by rw [X₁.warmed.alike.method?]; exact hmethM
  have happ : (headSpec ws rm).appliesLoose y e.platform ((T.setVm vm₁).calling { g with stack := rest } mk argsL.toArray) = true :=
    Spec.appliesLoose_calling (g := { g with stack := rest }) h hdg hn hkY hinitY
      (X₁.room_calling (g := { g with stack := rest }) (R' := rm) hsize hmY hcM hfr (by rw [hlM]; show 2 * g.monitorRoom + (rest.map fun v => v.category).sum + (maxL + 11) + rm.locals ≤ R.locals; omega) hcs hss) (atoms_intro fun w hw => hws w hw _ _ X₁.warmed)
  obtain ⟨mid, hmid⟩ := h.above
  have hfr2 : ((T.setVm vm₁).setTop { g with stack := rest }).frames = (.java { g with stack := rest } :: mid) ++ below := by rw [State.frames_setTop' _ h.top, hmid]; rfl
  obtain ⟨o, s₂, hsteps, -, hend, hq⟩ := Steps.callFree hM p X.admits X.cas X.clock (acts := []) hfr2 happ (hblind _ _ _ _ (hPc vm₁ X₁.warmed)) trivial
  rw [State.frames_setTop' _ h.top, X₁.tail] at hend
  exact ⟨vm₁, mk, o, s₂, X₁, hend, hq, fun target ht => hstep₁ _ fun acts => by rw [doInvoke_state]; exact hsteps.trans ht⟩
end TB
