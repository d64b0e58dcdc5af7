/-! throws: a callee that threw -/
/-- behind a call that threw: the walk stands again, the note 'being thrown' on its frame -/
theorem tm_behind {E : AE} {A : Nat → Prop} {p : Program} {l : Launch} {e : Env} {R : Room} {s : State} {m : MethodId} {args : Array Value} {below : List Frame} {meth : Method} {c : Code} {T : State} {locs : List Loc} {g : JFrame} {mk : MethodId} {a : Array Value} {o : Outcome} {t : State} {cls : String} {Qh : AH → Prop}
    (X : Stand p l e R s m args below meth c T locs 0 0) (hg : g.method = m) (hA : (∀ q, s.heap.size ≤ q → A q) ∧ (∀ k, k < am_Y.length → A (E.2.2 k))) (hS : va_S A s.heap T.heap locs)
    (hend : Ended t (.java g :: below) o) (hq : tm_Q E (am_A am_Y E T.heap.size) cls Qh a (T.calling g mk a) o t) :
    ∃ (x : Nat) (ce : Cell) (h' : AH) (T' : State) (L : List Loc), Stand p l e R s m args below meth c T' (locs ++ L) 1 6 ∧ t = (T'.setTop g).pushFrame (.throwing x) ∧ Qh h' ∧ va_P E.1 am_cl (am_w am_Y E h') T'.heap ∧ va_D A (am_w am_Y E h') ∧ va_S A s.heap T'.heap (locs ++ L) ∧ T'.heap[x]? = some ce ∧ ce.vm.isStatics = false ∧ T'.vm.findClass cls = some ce.cls := by
  obtain ⟨⟨x, ce, h', rfl, hq, hP, hK, hD, hce, hiss, hfc⟩, ⟨hz, hf⟩, L, hW, hsame, hL⟩ := hq
  have sub : ∀ q, am_A am_Y E T.heap.size q → A q := by
    intro q hq
    rcases hq with ⟨k, hk, rfl⟩ | hq
    · exact hA.2 k hk
    · exact hA.1 q (Nat.le_trans hS.1 hq)
  obtain ⟨T', X', hWT, hsT, ht⟩ := X.outOfThrown hg hend hW hsame
  have hh : T'.heap = t.heap := by rw [ht]; exact (Stand.throwing_heap T' g x).symm
  have hv : T'.vm = t.vm := by rw [ht]; exact (Stand.throwing_vm T' g x).symm
  have hz : T.heap.size ≤ t.heap.size := hz
  have hf : ∀ q : Nat, q < T.heap.size → ¬ am_A am_Y E T.heap.size q → t.heap[q]? = T.heap[q]? := hf
  refine ⟨x, ce, h', T', L, by simpa using X', ht, hq, by rw [hh]; exact hP, hD.weaken (fun _ q _ h => sub q.1 h), ⟨Nat.le_trans hS.1 (by rw [hh]; exact hz), fun q h1 h2 => ?_, fun q hq => ?_⟩, by rw [hh]; exact hce, hiss, by rw [hv]; exact hfc⟩
  · rw [hh, hf q (Nat.lt_of_lt_of_le h1 hS.1) (fun z => h2 (sub q z))]
    exact hS.2.1 q h1 h2
  · rcases List.mem_append.mp hq with h | h
    · exact hS.2.2 q h
    · exact sub _ (hL q h)
/-- no handler: the caller throws too -/
theorem tm_out {E : AE} {p : Program} {l : Launch} {e : Env} {R : Room} {s : State} {m : MethodId} {args : Array Value} {below : List Frame} {meth : Method} {c : Code} {T : State} {locs : List Loc} {g : JFrame} {mk : MethodId} {a : Array Value} {o : Outcome} {t : State} {cls : String} {Qh : AH → Prop} {s0 : State} {k : Nat}
    (C : tm_C E s0 k p s m args meth c) (X : Stand p l e R s m args below meth c T locs 0 0) (hg : g.method = m) (hlk : g.locked = none) (hen : g.entered = []) (hS : va_S (am_A am_Y E s.heap.size) s.heap T.heap locs)
    (hend : Ended t (.java g :: below) o) (hq : tm_Q E (am_A am_Y E T.heap.size) cls Qh a (T.calling g mk a) o t) : ∃ U, Steps p.tables e below t U ∧ tm_MQ below (tm_Q E (am_A am_Y E s.heap.size) cls Qh) args s U := by
  obtain ⟨x, ce, h', T', L, X', ht, hq, hP, hD, hS', hce, hiss, hfc⟩ := tm_behind X hg ⟨C.1.2.2.2.2.2.2.1, C.1.2.2.2.2.2.2.2.1⟩ hS hend hq
  have hout := tx_empty C.2.2 (C.1.2.2.2.2.1 _ List.mem_cons_self) X'.method X'.code
  obtain ⟨hst, hrun, hended, hW, hsame⟩ := X'.leaveThrown x hg hlk hen (by rw [hout]; intro y hy; cases hy) C.1.2.2.2.2.2.2.2.2
  rw [ht]
  have hWs : s.WarmedH T'.vm := X'.warmed
  exact ⟨_, hst, .threw x, hrun, hended, ⟨x, ce, h', rfl, hq, hP, va_K.moved hWs.alike C.1.2.2.2.2.2.1, hD, hce, hiss, hfc⟩, ⟨hS'.1, hS'.2.1⟩, locs ++ L, hW, hsame, hS'.2.2⟩
theorem tm_endV {E : AE} {s0 : State} (h0 : tx_0 s0 E) {l : Launch} {k : Nat} {p : Program} {s : State} {m : MethodId} {args : Array Value} {meth : Method} {c : Code} (C : tm_C E s0 k p s m args meth c) {e : Env} {R R' : Room} {below : List Frame} {cls : String} {Qh : AH → Prop} {ci k' n idx : Nat} {Cn : String} {Tt : u_T} {N : Nat} {fs : List (Option Nat)}
    (hc : am_cl[ci]? = some (Cn, Tt, N)) (hG : GoodIn (AM.ws (am_mi k) am_Gw) (wsV (am_mi k).1.cls idx Cn (am_mi k').1 (AM.ws (am_mi k') am_Gw)))
    (hd0 : (am_mi k').1.cls = Cn ∧ (am_mi k').1.cls ≠ "java/lang/invoke/MethodHandle" ∧ (am_mi k').1.cls ≠ "java/lang/invoke/VarHandle" ∧ (parseMethodDescriptor (am_mi k').1.desc).map (fun d => d.parameters.length) = some n)
    (hR : R'.frames + 1 ≤ R.frames ∧ 8 + ((am_mi k').2.2.1 + 11) + R'.locals ≤ R.locals) (hRc : R'.cells ≤ R.cells ∧ R'.slots ≤ R.slots) {pc : Nat} (hd : decode (am_mi k).2.1 pc = .ok (.invokevirtual idx, 3))
    (L : List (Option AV)) (S' : List AV) (h : AH) (q : Nat) (as : List AV) (hY : am_Y[q]? = some (.inl (ci, fs))) (hcw : am_cw S' ≤ 8) (hn : as.length = n) (hM : tm_g E l s0 k' R' cls (.inr (.inr q) :: as) h Qh) :
    am_J am_Y am_cl E (am_A am_Y E s.heap.size) p l e R s m args below meth c (am_mi k).2.2.1 (tm_MQ below (tm_Q E (am_A am_Y E s.heap.size) cls Qh) args s) pc L (as.reverse ++ .inr (.inr q) :: S') h := by
  intro H locs ls hP hD hS hl T hT X
  subst hT
  obtain ⟨C1, hs, hnm⟩ := id C
  have hsT := tx_here h0 X hs hS
  have hat := am_w_at (E := E) (h := h) hY
  obtain ⟨cellB, hcB, hoB, hclB⟩ := va_recv C1.2.2.2.2.2.1 hP hc hat
  have ok : ∀ w ∈ wsV (am_mi k).1.cls idx Cn (am_mi k').1 (AM.ws (am_mi k') am_Gw), w.before args s = true := fun w hw => C1.2.2.2.2.1 w (hG w hw).1
  have hlen : ∀ sig, parseMethodDescriptor (am_mi k').1.desc = some sig → (as.map (am_v E)).length = sig.parameters.length := fun sig hsg => by
    have h2 := hd0.2.2.2
    rw [hsg] at h2
    rw [List.length_map, hn]
    exact (Option.some.inj h2).symm
  obtain ⟨vm₁, mk, o, t, X₁, hend, hq, hst⟩ := tm_runV X C1.1 (own := (am_mi k).1.cls) (C := Cn) (index := idx) (bytes := (am_mi k').2.1) (maxL := (am_mi k').2.2.1) (ret := (am_mi k').2.2.2.1) (hM T.heap.size) tm_Pc_blind hR.1 hR.2 (pay_in C1.2.2.2.2.1 (fun w hw => hG w (by unfold wsV; exact List.mem_append_right _ hw))) C1.2.2.2.1 (ok _ (by simp [wsV])) (ok _ (by simp [wsV])) (ok _ (by simp [wsV])) (ok _ (by simp [wsV, AM.ws])) (by rw [hd0.1]; exact ok _ (by simp [wsV])) ⟨hd0.2.1, hd0.2.2.1⟩ hcB hoB hclB (g := F0 m pc ls ((as.reverse ++ .inr (.inr q) :: S').map (am_v E))) rfl (by rw [C1.2.2.1]; exact hl.1) (argsL := as.map (am_v E)) (rest := S'.map (am_v E)) hlen (by simp [am_v]) (by show 2 * 0 + _ ≤ 8; rw [am_cw_ok]; omega) (by rw [C1.2.1]; exact hd) (by omega) (by omega)
    (fun vm₁ hW₁ => ⟨⟨rfl, rfl, hP, va_K.moved hW₁.alike C1.2.2.2.2.2.1, hD.weaken (fun _ _ _ _ => trivial)⟩, ⟨State.WarmedH.trans hs.1 hW₁, hsT.2⟩⟩)
  obtain ⟨U, hU, hQ⟩ := tm_out C X₁ rfl rfl rfl hS hend hq
  exact ⟨U, hst _ hU, hQ⟩
theorem tm_endS {E : AE} {s0 : State} (h0 : tx_0 s0 E) {l : Launch} {k : Nat} {p : Program} {s : State} {m : MethodId} {args : Array Value} {meth : Method} {c : Code} (C : tm_C E s0 k p s m args meth c) {e : Env} {R R' : Room} {below : List Frame} {cls : String} {Qh : AH → Prop} {k' n idx : Nat}
    (hG : GoodIn (AM.ws (am_mi k) am_Gw) (wsS (am_mi k).1.cls idx (am_mi k').1 (AM.ws (am_mi k') am_Gw)))
    (hd0 : (am_mi k').1.cls = (am_mi k).1.cls ∧ (am_mi k').1.cls ≠ "java/lang/invoke/MethodHandle" ∧ (am_mi k').1.cls ≠ "java/lang/invoke/VarHandle" ∧ (parseMethodDescriptor (am_mi k').1.desc).map (fun d => d.parameters.length) = some n)
    (hR : R'.frames + 1 ≤ R.frames ∧ 8 + ((am_mi k').2.2.1 + 11) + R'.locals ≤ R.locals) (hRc : R'.cells ≤ R.cells ∧ R'.slots ≤ R.slots) {pc : Nat} (hd : decode (am_mi k).2.1 pc = .ok (.invokestatic idx, 3))
    (L : List (Option AV)) (S' : List AV) (h : AH) (as : List AV) (hcw : am_cw S' ≤ 8) (hn : as.length = n) (hM : tm_g E l s0 k' R' cls as h Qh) :
    am_J am_Y am_cl E (am_A am_Y E s.heap.size) p l e R s m args below meth c (am_mi k).2.2.1 (tm_MQ below (tm_Q E (am_A am_Y E s.heap.size) cls Qh) args s) pc L (as.reverse ++ S') h := by
  intro H locs ls hP hD hS hl T hT X
  subst hT
  obtain ⟨C1, hs, hnm⟩ := id C
  have hsT := tx_here h0 X hs hS
  have ok : ∀ w ∈ wsS (am_mi k).1.cls idx (am_mi k').1 (AM.ws (am_mi k') am_Gw), w.before args s = true := fun w hw => C1.2.2.2.2.1 w (hG w hw).1
  have hlen : ∀ sig, parseMethodDescriptor (am_mi k').1.desc = some sig → (as.map (am_v E)).length = sig.parameters.length := fun sig hsg => by
    have h2 := hd0.2.2.2
    rw [hsg] at h2
    rw [List.length_map, hn]
    exact (Option.some.inj h2).symm
  obtain ⟨vm₁, mk, o, t, X₁, hend, hq, hst⟩ := tm_runS X C1.1 (own := (am_mi k).1.cls) (index := idx) (bytes := (am_mi k').2.1) (maxL := (am_mi k').2.2.1) (ret := (am_mi k').2.2.2.1) (hM T.heap.size) tm_Pc_blind hR.1 hR.2 (pay_in C1.2.2.2.2.1 (fun w hw => hG w (by unfold wsS; exact List.mem_append_right _ hw))) C1.2.2.2.1 (ok _ (by simp [wsS])) (ok _ (by simp [wsS])) (ok _ (by simp [wsS, AM.ws])) (by rw [hd0.1]; exact ok _ (by simp [wsS])) ⟨hd0.2.1, hd0.2.2.1⟩ (g := F0 m pc ls ((as.reverse ++ S').map (am_v E))) rfl (by rw [C1.2.2.1]; exact hl.1) (argsL := as.map (am_v E)) (rest := S'.map (am_v E)) hlen (by simp) (by show 2 * 0 + _ ≤ 8; rw [am_cw_ok]; omega) (by rw [C1.2.1]; exact hd) (by omega) (by omega)
    (fun vm₁ hW₁ => ⟨⟨rfl, rfl, hP, va_K.moved hW₁.alike C1.2.2.2.2.2.1, hD.weaken (fun _ _ _ _ => trivial)⟩, ⟨State.WarmedH.trans hs.1 hW₁, hsT.2⟩⟩)
  obtain ⟨U, hU, hQ⟩ := tm_out C X₁ rfl rfl rfl hS hend hq
  exact ⟨U, hst _ hU, hQ⟩
