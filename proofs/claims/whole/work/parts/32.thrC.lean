/-! throws: the contract of a method that throws -/
/-- what the start gives: the words of the two exceptions, the six texts, the layout's cells made since -/
def tx_0 (s0 : State) (E : AE) : Prop := (∃ a0 : Array Value, (∀ w ∈ Bundle.ownAtoms "PointDesk" 138 tx_I tx_N, w.before a0 s0 = true) ∧ (∀ w ∈ Bundle.ownAtoms "PointDesk" 102 tx_A tx_N, w.before a0 s0 = true) ∧ (Cond.not (.castable tx_A tx_I)).before a0 s0 = true) ∧ (∀ r ∈ ([(208, "no such point"), (100, "no such number of a point"), (136, "no such side of the hull"), (149, "no such number of a side"), (210, "x or y is too large"), (172, "no such places of the route")] : List (Nat × String)), ∃ a : Nat, vk_R "PointDesk" r.1 r.2 a s0) ∧ ∀ c : Nat, c < 35 → s0.heap.size ≤ E.2.2 c
def tm_Q (E : AE) (A : Nat → Prop) (cls : String) (Qh : AH → Prop) : Array Value → State → Outcome → State → Prop := fun _ st oc t =>
  (∃ (x : Nat) (ce : Cell) (h' : AH), oc = .threw x ∧ Qh h' ∧ va_P E.1 am_cl (am_w am_Y E h') t.heap ∧ va_K E.1 am_cl (am_tys E) t ∧ va_D A (am_w am_Y E h') ∧ t.heap[x]? = some ce ∧ ce.vm.isStatics = false ∧ t.vm.findClass cls = some ce.cls) ∧ va_F A st t ∧ ∃ L : List Loc, st.WarmedH t.vm ∧ st.sameButNew ({ t with vm := st.vm } : State) L 1 6 ∧ ∀ q ∈ L, A q.base
def tm_Pc (s0 : State) (E : AE) (sz : Nat) (as : List AV) (h : AH) : Array Value → State → Prop := fun a U => am_Pc am_Y am_cl E sz as h a U ∧ tx_s s0 U
theorem tm_Pc_blind {s0 : State} {E : AE} {sz : Nat} {as : List AV} {h : AH} : FrameBlind (tm_Pc s0 E sz as h) := fun a U g mk q => ⟨am_Pc_blind a U g mk q.1, q.2⟩
def tm_g (E : AE) (l : Launch) (s0 : State) (k : Nat) (R : Room) (cls : String) (as : List AV) (h : AH) (Qh : AH → Prop) : Prop :=
  ∀ sz : Nat, MetFree l (am_mi k).1 (headSpec (AM.ws (am_mi k) am_Gw) R) (tm_Pc s0 E sz as h) (fun _ _ _ _ _ => True) (tm_Q E (am_A am_Y E sz) cls Qh)
def tm_MQ (below : List Frame) (Qc : Array Value → State → Outcome → State → Prop) (a : Array Value) (s : State) : State → Prop := fun t => ∃ o, t.status = .running ∧ Ended t below o ∧ Qc a s o t
/-- the table of the road up to the throw -/
def tm_T (k : Nat) (R : Room) (tbl : AT) : Prop :=
  ∀ (E : AE) (A : Nat → Prop) (p : Program) (l : Launch) (e : Env) (s : State) (m : MethodId) (args : Array Value) (below : List Frame) (meth : Method) (c : Code) (Rt : AR) (Q : State → Prop),
    am_C am_Y am_cl E A p s m args meth c (am_mi k).2.2.1 (am_mi k).2.1 (am_mi k).1.cls (AM.ws (am_mi k) am_Gw) →
    ∀ q ∈ tbl, am_sd (am_G am_Y am_cl E l am_Gw am_mi) (am_J am_Y am_cl E A p l e R s m args below meth c (am_mi k).2.2.1 Q) Rt q.2 q.1
/-- where a walk of a method that throws stands -/
def tm_C (E : AE) (s0 : State) (k : Nat) (p : Program) (s : State) (m : MethodId) (args : Array Value) (meth : Method) (c : Code) : Prop :=
  am_C am_Y am_cl E (am_A am_Y E s.heap.size) p s m args meth c (am_mi k).2.2.1 (am_mi k).2.1 (am_mi k).1.cls (AM.ws (am_mi k) am_Gw) ∧ tx_s s0 s ∧ s.methodNamed? (am_mi k).1 = some m
theorem tx_empty {s : State} {x : MethodName} {m : MethodId} {args : Array Value} {bytes : ByteArray} {n : Nat} {ret : Option FieldType} {meth : Method} {c : Code} (hn : s.methodNamed? x = some m) (hc : (Cond.code x bytes n ret).before args s = true) (hm : s.vm.method? m = some meth) (hcd : meth.code = some c) : c.exceptionTable.toList = [] := by
  obtain ⟨meth', c', h1, h2, -, -, -, -, h3, -⟩ := Cond.code_spec hn hc
  cases hm.symm.trans h1
  cases hcd.symm.trans h2
  have h0 : c.exceptionTable.size = 0 := by simpa [Array.isEmpty] using h3
  exact List.eq_nil_of_length_eq_zero (by simpa using h0)
theorem tm_open {E : AE} {l : Launch} {s0 : State} {k : Nat} {R : Room} {cls : String} {as : List AV} {h : AH} {Qh : AH → Prop} (hpl : plainName (am_mi k).1.cls = true) (haw : am_aw as ≤ (am_mi k).2.2.1)
    (hb : ∀ (p : Program) (e : Env) (s : State) (m : MethodId) (args : Array Value) (below : List Frame) (meth : Method) (c : Code), tm_C E s0 k p s m args meth c → am_J am_Y am_cl E (am_A am_Y E s.heap.size) p l e R s m args below meth c (am_mi k).2.2.1 (tm_MQ below (tm_Q E (am_A am_Y E s.heap.size) cls Qh) args s) 0 (am_l0 (am_mi k).2.2.1 as) [] h) : tm_g E l s0 k R cls as h Qh := by
  intro sz
  refine MetFree.of_bodyS (code := (am_mi k).2.1) (maxLocals := (am_mi k).2.2.1) (ret := (am_mi k).2.2.2.1) hpl ?_ ?_
  · intro args s m h hn
    obtain ⟨meth, c, h1, h2, h3, h4, h5, h6, -, -⟩ := Cond.code_spec hn (atoms_spec (ws := AM.ws (am_mi k) am_Gw) h _ List.mem_cons_self)
    exact ⟨meth, c, h1, h2, h3, h4, h5, h6⟩
  · intro p e s m args below meth c s₁ B hml hv _
    obtain ⟨⟨rfl, hsz, hP, hK, hD0⟩, htx⟩ := hv
    subst hsz
    have hD := am_D_self (sz := s.heap.size) hD0
    have X : am_C am_Y am_cl E (am_A am_Y E s.heap.size) p s m (as.map (am_v E)).toArray meth c (am_mi k).2.2.1 (am_mi k).2.1 (am_mi k).1.cls (AM.ws (am_mi k) am_Gw) :=
      ⟨B.exec, B.bytes, hml, findClass_of_methodNamed B.named, atoms_spec (ws := AM.ws (am_mi k) am_Gw) B.pre, hK, fun q hq => .inr hq, fun k hk => .inl ⟨k, hk, rfl⟩, B.notSynchronized⟩
    have hl := lv_entry (as.map (am_v E)) (n := (am_mi k).2.2.1) (by rw [am_aw_ok]; exact haw)
    have hh0 : s₁.heap = s.heap := by rw [B.state]; rfl
    have hj := hb p e s m (as.map (am_v E)).toArray below meth c ⟨X, htx, B.named⟩ s.heap [] _ hP hD va_S.rf ⟨hl.1, hl.2.1, fun q hq => hl.2.2 q (am_l0_mem E as _ 0 q hq)⟩
    obtain ⟨t, a1, o, b1, b2, b3⟩ := hj s₁ hh0 (Stand.of_body B)
    rw [lg_entry_eq]
    exact ⟨t, o, a1, b1, b2, b3⟩
theorem tx_P {E : AE} {h : AH} {H H1 : Heap} (hP : va_P E.1 am_cl (am_w am_Y E h) H) (hk : ∀ j : Nat, j < H.size → H1[j]? = H[j]?) : va_P E.1 am_cl (am_w am_Y E h) H1 := fun k q hq => (hP k q hq).kept (hk q.1 (hP k q hq).lt)
/-- what a walk's place gives of the start's facts -/
theorem tx_here {E : AE} {s0 : State} (h0 : tx_0 s0 E) {p : Program} {l : Launch} {e : Env} {R : Room} {s : State} {m : MethodId} {args : Array Value} {below : List Frame} {meth : Method} {c : Code} {T : State} {locs : List Loc} {cells slots : Nat} (X : Stand p l e R s m args below meth c T locs cells slots) (hs : tx_s s0 s) (hS : va_S (am_A am_Y E s.heap.size) s.heap T.heap locs) : tx_s s0 T := by
  refine ⟨State.WarmedH.trans hs.1 X.warmed, Nat.le_trans hs.2.1 hS.1, fun q hq => ?_⟩
  rw [hS.2.1 q (Nat.lt_of_lt_of_le hq hs.2.1) ?_]
  · exact hs.2.2 q hq
  · rintro (⟨c, hc, rfl⟩ | h)
    · have := h0.2.2 c hc
      omega
    · have := hs.2.1
      omega
/-- the end by 'new' -/
theorem tm_endN {E : AE} {s0 : State} (h0 : tx_0 s0 E) {l : Launch} (htr : l.stackTraces = false) {k : Nat} {p : Program} {s : State} {m : MethodId} {args : Array Value} {meth : Method} {c : Code} (C : tm_C E s0 k p s m args meth c) {e : Env} {R : Room} {below : List Frame} {cls : String} {Qh : AH → Prop} {icl ist ic : Nat} {tx : String}
    (hk : (am_mi k).1.cls = "PointDesk") (hi : (cls = tx_I ∧ ic = 138) ∨ (cls = tx_A ∧ ic = 102)) (w1 : Cond.classLink "PointDesk" icl cls ∈ am_Gw) (w2 : Cond.initialized cls ∈ am_Gw) (hx : (ist, tx) ∈ ([(208, "no such point"), (100, "no such number of a point"), (136, "no such side of the hull"), (149, "no such number of a side"), (210, "x or y is too large"), (172, "no such places of the route")] : List (Nat × String)))
    (hR : 1 ≤ R.cells ∧ 6 ≤ R.slots ∧ 6 ≤ R.frames ∧ 82 ≤ R.locals)
    {P : Nat} (d0 : decode (am_mi k).2.1 P = .ok (.new icl, 3)) (d3 : decode (am_mi k).2.1 (P + 3) = .ok (.dup, 1)) (d4 : decode (am_mi k).2.1 (P + 3 + 1) = .ok (.ldc ist, 2)) (d6 : decode (am_mi k).2.1 (P + 3 + 1 + 2) = .ok (.invokespecial ic, 3)) (d9 : decode (am_mi k).2.1 (P + 3 + 1 + 2 + 3) = .ok (.athrow, 1)) (L : List (Option AV)) (h : AH) (hq : Qh h) :
    am_J am_Y am_cl E (am_A am_Y E s.heap.size) p l e R s m args below meth c (am_mi k).2.2.1 (tm_MQ below (tm_Q E (am_A am_Y E s.heap.size) cls Qh) args s) P L [] h := by
  obtain ⟨C, hs, hn⟩ := C
  intro H locs ls hP hD hS hl T hT X
  subst hT
  have hsT := tx_here h0 X hs hS
  obtain ⟨q, hq2⟩ := h0.2.1 _ hx
  obtain ⟨a0, hI, hA, -⟩ := h0.1
  have hat : ∀ (a : Array Value) (U : State), U.vm = T.vm → U.heap = T.heap → ∀ w ∈ Bundle.ownAtoms "PointDesk" ic cls tx_N, w.before a U = true := by
    intro a U e1 e2
    have hU : tx_s s0 U := ⟨by rw [e1]; exact hsT.1, by rw [e2]; exact hsT.2.1, by rw [e2]; exact hsT.2.2⟩
    rcases hi with ⟨rfl, rfl⟩ | ⟨rfl, rfl⟩
    · exact tx_all hU hI tx_okI
    · exact tx_all hU hA tx_okA
  have hwd : ∀ w ∈ am_Gw, ∀ (a : Array Value) (U : State), U.vm = T.vm → w.before a U = true := fun w hw a U e1 => word_at (by rw [e1]; exact X.warmed) (am_Ggood hw) (C.2.2.2.2.1 w (List.mem_cons_of_mem _ hw))
  have hfit : Bundle.fit cls = true := by rcases hi with ⟨rfl, rfl⟩ | ⟨rfl, rfl⟩ <;> decide
  have hown : T.vm.findClass "PointDesk" = some m.cls := by rw [X.warmed.alike.findClass, ← hk]; exact C.2.2.2.1
  obtain ⟨U, a, ce, hst, hrun, hend, hW, hsame, hz, hj, hce, hiss, hfc⟩ := tm_throw X C.1 (by rw [X.admits.platform]; exact htr) (own := "PointDesk") (cls := cls) (tx := tx) (icl := icl) (ist := ist) (ic := ic) (q := q) C.2.1 hown hfit hat (hwd _ w1) (hwd _ w2) (vk_R.warm hsT.1 hq2) hR.1 hR.2.1 hR.2.2.1 hR.2.2.2 (tx_empty hn (C.2.2.2.2.1 _ List.mem_cons_self) X.method X.code) C.2.2.2.2.2.2.2.2 (pc := P) (ls := ls) (by rw [C.2.2.1]; exact hl.1) d0 d3 d4 d6 d9
  have hWs : s.WarmedH U.vm := State.WarmedH.trans X.warmed hW
  refine ⟨U, hst, .threw a, hrun, hend, ⟨a, ce, h, rfl, hq, tx_P hP hj, va_K.moved hWs.alike C.2.2.2.2.2.1, hD, hce, hiss, by rw [hW.alike.findClass]; exact hfc⟩, ⟨Nat.le_trans hS.1 hz, fun q h1 h2 => ?_⟩, locs, hWs, hsame, hS.2.2⟩
  rw [hj q (Nat.lt_of_lt_of_le h1 hS.1)]
  exact hS.2.1 q h1 h2
