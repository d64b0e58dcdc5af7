/-! throws: the machine from where a walk stands, as if it began there -/
theorem tx_hears {s U : State} (hv : s.vm.Alike U.vm) (m : MethodId) (below : List Frame) : U.hears m below = s.hears m below := by
  unfold State.hears
  split
  · rw [State.code?_eq, State.code?_eq, hv.method?]
  · rfl
  · rfl
  · rw [hv.method?]
theorem tx_anew {p : Program} {l : Launch} {e : Env} {R : Room} {s : State} {m : MethodId} {args : Array Value} {below : List Frame} {meth : Method} {c : Code} {T : State} {locs : List Loc} (X : Stand p l e R s m args below meth c T locs 0 0) : Stand p l e R (T.setFrames (.invoking m args :: below)) m args below meth c T [] 0 0 := by
  obtain ⟨g₀, hfr⟩ := X.frames_eq
  have hcur := State.cur_lt_of_frames hfr
  obtain ⟨th, hth, -⟩ := State.frames_cons hfr
  have hF : (T.setFrames (.invoking m args :: below)).frames = .invoking m args :: below := State.frames_setFrames _ hcur
  have hl : (T.setFrames (.invoking m args :: below)).localsInUse = s.localsInUse := by
    simp only [State.localsInUse, hF, X.frames]
    show _ + ((((T.vm.method? m).bind (·.code)).map (·.maxLocals)).getD 0 + 11) = _
    rw [X.warmed.alike.method?]
  have hr := X.room
  have hz := X.heapSize
  have hu := X.used
  have hbk := X.book
  have hlim : e.platform.stackLimits (T.setFrames (.invoking m args :: below)).me = e.platform.stackLimits s.me := by
    rw [State.stackLimits_setFrames]; exact X.limits
  have hby : (T.setFrames (.invoking m args :: below)).me.stackBytes = s.me.stackBytes := by
    rw [State.stackBytes_setFrames]; exact X.bytes
  refine ⟨X.admits, X.cas, X.clock, hF, ?_, ?_, X.method', X.code, X.here, X.tail, State.WarmedH.refl _, ?_, ?_, ?_⟩
  · unfold State.hasRoom at hr ⊢
    simp only [Bool.and_eq_true, decide_eq_true_eq] at hr ⊢
    rw [hl, hF, hlim, hby]
    rw [X.frames] at hr
    obtain ⟨⟨⟨⟨h1, h2⟩, h3⟩, h4⟩, h5⟩ := hr
    refine ⟨⟨⟨⟨h1, h2⟩, ?_⟩, ?_⟩, hbk⟩
    · show T.heap.size + _ ≤ _; omega
    · show T.slotsUsed + _ ≤ _; omega
  · rw [tx_hears (s := s) (U := T.setFrames (.invoking m args :: below)) X.warmed.alike]
    exact X.hears
  · rw [hlim]; exact X.limits
  · rw [hby]; exact X.bytes
  · obtain ⟨t2, ht2, -⟩ := State.frames_cons hF
    have h := (State.sameButNew.refl _ ht2).setFrames T.frames (State.cur_lt_of_frames hF)
    rw [State.setFrames_setFrames, State.setFrames_self hth] at h
    exact h
/-- a state of the law's run: the tables warmer, what was there at the start as it was -/
def tx_s (s0 U : State) : Prop := s0.WarmedH U.vm ∧ s0.heap.size ≤ U.heap.size ∧ ∀ q : Nat, q < s0.heap.size → U.heap[q]? = s0.heap[q]?
theorem tx_s.tab {s0 U : State} (h : tx_s s0 U) {w : Cond} {a a' : Array Value} (h1 : w.onTables = true) (h2 : w.keepsFace = true) (hw : w.before a s0 = true) : w.before a' U = true := by
  have h3 := Cond.before_shiftedFace (State.Shifted.of_warmed h.1) w h2 hw
  have e := Cond.onTables_vm (A := a) (A' := a') (U := s0) (U' := U) U.vm w h1
  rw [h3] at e
  exact e.symm
theorem tx_s.lays {s0 U : State} (h : tx_s s0 U) {O f d : String} {a a' : Array Value} (hw : (Cond.laysStatic O f d).before a s0 = true) : (Cond.laysStatic O f d).before a' U = true := by
  obtain ⟨c, k, i, fd, ad, cell, hc, hf, hst, hsta, hcell, hiss, hcls, hlt, hty⟩ := Cond.laysStatic_spec (Cond.laysStatic_setVm h.1.alike hw)
  have hcell : s0.heap[ad]? = some cell := hcell
  have hU : U.heap[ad]? = some cell := by rw [h.2.2 ad (Array.getElem?_eq_some_iff.mp hcell).1]; exact hcell
  have hc : U.vm.findClass O = some c := hc
  have hf : U.fieldFound? O f d = some (c, k, i, fd) := hf
  simp [Cond.before, Cond.holds, Cond.value, hc, hf, hst, hsta, hU, hiss, hcls, hlt, hty]
theorem tx_isRef {a : Array Value} {s : State} {t : Term} (h : (Cond.isRef t).before a s = true) : ∃ v, t.eval a s none [] s = some v ∧ (v = .null ∨ ∃ x, v = .ref x) := by
  cases hv : t.eval a s none [] s with
  | none => simp [Cond.before, Cond.holds, Cond.value, hv] at h
  | some v =>
    refine ⟨v, rfl, ?_⟩
    simp only [Cond.before, Cond.holds, Cond.value, hv] at h
    cases v with
    | null => exact .inl rfl
    | ref x => exact .inr ⟨x, rfl⟩
    | _ => simp at h
theorem tx_s.isRef {s0 U : State} (h : tx_s s0 U) {O f d : String} {a a' : Array Value} (hl : (Cond.laysStatic O f d).before a s0 = true) (hi : (Cond.initialized O).before a s0 = true) (hw : (Cond.isRef (.static O f d)).before a s0 = true) : (Cond.isRef (.static O f d)).before a' U = true := by
  obtain ⟨v, hv, hr⟩ := tx_isRef hw
  have hz := va_Zof (A := fun q => s0.heap.size ≤ q) hl hi hv (fun q h1 h2 => by omega)
  obtain ⟨cf, kf, fi, fd, ad, cell, h1, h2, h3, h4, h5, h6, h7, h8⟩ := (hz.moved (U := U) h.1.alike).kept (H1 := U.heap) (fun q h1 _ => h.2.2 q h1)
  have he : (Term.static O f d).eval a' U none [] U = some v := by
    simp [Term.eval, State.fieldNamed?, h1, h2, h4, h5, h6, h7]
  simp only [Cond.before, Cond.holds, Cond.value, he]
  rcases hr with rfl | ⟨x, rfl⟩ <;> simp
def tx_ok (L : List Cond) : Cond → Bool
  | .laysStatic _ _ _ => true
  | .isRef (.static O f d) => L.contains (.laysStatic O f d) && L.contains (.initialized O)
  | c => c.onTables && c.keepsFace
theorem tx_all {s0 U : State} (h : tx_s s0 U) {L : List Cond} {a0 a' : Array Value} (hL : ∀ w ∈ L, w.before a0 s0 = true) (ok : L.all (tx_ok L) = true) : ∀ w ∈ L, w.before a' U = true := by
  intro w hw
  have hk := List.all_eq_true.mp ok w hw
  have htab : (w.onTables && w.keepsFace) = true → w.before a' U = true := fun g => by
    simp only [Bool.and_eq_true] at g
    exact h.tab g.1 g.2 (hL w hw)
  cases w with
  | laysStatic O f d => exact h.lays (hL _ hw)
  | isRef t =>
    cases t with
    | static O f d =>
      simp only [tx_ok, Bool.and_eq_true, List.contains_iff_mem] at hk
      exact h.isRef (hL _ hk.1) (hL _ hk.2) (hL _ hw)
    | _ => exact htab hk
  | _ => exact htab hk
abbrev tx_N : List String := ["java/lang/RuntimeException", "java/lang/Exception"]
abbrev tx_I : String := "java/lang/IndexOutOfBoundsException"
abbrev tx_A : String := "java/lang/IllegalArgumentException"
theorem tx_okI : (Bundle.ownAtoms "PointDesk" 138 tx_I tx_N).all (tx_ok (Bundle.ownAtoms "PointDesk" 138 tx_I tx_N)) = true := by decide +kernel
theorem tx_okA : (Bundle.ownAtoms "PointDesk" 102 tx_A tx_N).all (tx_ok (Bundle.ownAtoms "PointDesk" 102 tx_A tx_N)) = true := by decide +kernel
