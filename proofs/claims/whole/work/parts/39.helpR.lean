/-! the law's helpers: a callee that threw is caught -/
theorem hp_cast {s0 s : State} {E : AE} (h0 : tx_0 s0 E) (hs : tx_s s0 s) {args : Array Value} : (Cond.castable tx_I tx_I).before args s = true ∧ (Cond.castable tx_A tx_A).before args s = true ∧ ∀ c1 c2, s.vm.findClass tx_A = some c1 → s.vm.findClass tx_I = some c2 → s.vm.assignable c1 c2 = false := by
  obtain ⟨⟨a0, hI, hA, hn⟩, -⟩ := h0
  refine ⟨tx_all hs hI tx_okI _ (by simp [Bundle.ownAtoms]), tx_all hs hA tx_okA _ (by simp [Bundle.ownAtoms]), fun c1 c2 e1 e2 => ?_⟩
  have al := hs.1.alike
  rw [al.findClass] at e1 e2
  rw [al.assignable]
  simpa [Cond.before, Cond.holds, Cond.value, e1, e2] using hn
theorem hp_endV {E : AE} {s0 : State} (h0 : tx_0 s0 E) {l : Launch} {q : HM} {p : Program} {s : State} {m : MethodId} {args : Array Value} {meth : Method} {c : Code} (C : hp_C E s0 q p s m args meth c) {e : Env} {below : List Frame} {cls : String} {Q : AR} {k' n idx : Nat} {kind : Int}
    (hG : GoodIn (HM.ws q) (wsV "PointDeskLaw" idx R_De (am_mi k').1 (AM.ws (am_mi k') am_Gw)))
    (hd0 : (am_mi k').1.cls = R_De ∧ (am_mi k').1.cls ≠ "java/lang/invoke/MethodHandle" ∧ (am_mi k').1.cls ≠ "java/lang/invoke/VarHandle" ∧ (parseMethodDescriptor (am_mi k').1.desc).map (fun d => d.parameters.length) = some n)
    (hR : tm_R2.frames + 1 ≤ hp_R.frames ∧ 8 + ((am_mi k').2.2.1 + 11) + tm_R2.locals ≤ hp_R.locals) {pc : Nat} (hd : decode q.2.1 pc = .ok (.invokevirtual idx, 3))
    (L : List (Option AV)) (S' : List AV) (h : AH) (as : List AV) (hcw : am_cw S' ≤ 8) (hn : as.length = n) (hM : tm_g E l s0 k' tm_R2 cls (.inr (.inr 0) :: as) h (fun h' => Q (some (.inl kind)) h')) {hpc : Nat}
    (hcat : ∀ (T' : State) (locs' : List Loc) (x : Nat) (ce : Cell) (ls : Array Slot) (st : List Value), Stand p l e hp_R s m args below meth c T' locs' 1 6 → T'.heap[x]? = some ce → ce.vm.isStatics = false → T'.vm.findClass cls = some ce.cls → ∃ vm', Stand p l e hp_R s m args below meth c (T'.setVm vm') locs' 1 6 ∧ ∀ target, Steps p.tables e below ((T'.setVm vm').setTop (F0 m hpc ls [.ref x])) target → Steps p.tables e below ((T'.setTop (F0 m pc ls st)).pushFrame (.throwing x)) target)
    (hend : ∀ (H : Heap) (locs : List Loc) (ls : Array Slot) (x : Nat) (h' : AH), Q (some (.inl kind)) h' → va_P E.1 am_cl (am_w am_Y E h') H → va_D (am_A am_Y E s.heap.size) (am_w am_Y E h') → va_S (am_A am_Y E s.heap.size) s.heap H locs → lv_has ls q.2.2.1 (am_a E 0 L) → W p l e hp_R s m args below meth c H locs 1 6 (MQ below (am_Q am_Y am_cl E (am_A am_Y E s.heap.size) Q) args s 1 6 (am_A am_Y E s.heap.size)) (F0 m hpc ls [.ref x])) :
    am_J am_Y am_cl E (am_A am_Y E s.heap.size) p l e hp_R s m args below meth c q.2.2.1 (MQ below (am_Q am_Y am_cl E (am_A am_Y E s.heap.size) Q) args s 1 6 (am_A am_Y E s.heap.size)) pc L (as.reverse ++ .inr (.inr 0) :: S') h := by
  intro H locs ls hP hD hS hl T hT X
  subst hT
  obtain ⟨C1, hs, htb, hrt⟩ := id C
  have hsT := tx_here h0 X hs hS
  have hat := am_w_at (Y := am_Y) (E := E) (h := h) (c := 0) (q := .inl (8, [some 1, some 4, some 7, some 12, some 17, some 19, some 21])) rfl
  obtain ⟨cellB, hcB, hoB, hclB⟩ := va_recv (q := (R_De, F_De, 7)) C1.2.2.2.2.2.1 hP rfl hat
  have ok : ∀ w ∈ wsV "PointDeskLaw" idx R_De (am_mi k').1 (AM.ws (am_mi k') am_Gw), w.before args s = true := fun w hw => C1.2.2.2.2.1 w (hG w hw).1
  have hlen : ∀ sig, parseMethodDescriptor (am_mi k').1.desc = some sig → (as.map (am_v E)).length = sig.parameters.length := fun sig hsg => by
    have h2 := hd0.2.2.2
    rw [hsg] at h2
    rw [List.length_map, hn]
    exact (Option.some.inj h2).symm
  obtain ⟨vm₁, mk, o, t, X₁, hended, hq, hst⟩ := tm_runV X C1.1 (own := "PointDeskLaw") (C := R_De) (index := idx) (bytes := (am_mi k').2.1) (maxL := (am_mi k').2.2.1) (ret := (am_mi k').2.2.2.1) (hM T.heap.size) tm_Pc_blind hR.1 hR.2 (pay_in C1.2.2.2.2.1 (fun w hw => hG w (by unfold wsV; exact List.mem_append_right _ hw))) C1.2.2.2.1 (ok _ (by simp [wsV])) (ok _ (by simp [wsV])) (ok _ (by simp [wsV])) (ok _ (by simp [wsV, AM.ws])) (by rw [hd0.1]; exact ok _ (by simp [wsV])) ⟨hd0.2.1, hd0.2.2.1⟩ hcB hoB hclB (g := F0 m pc ls ((as.reverse ++ .inr (.inr 0) :: S').map (am_v E))) rfl (by rw [C1.2.2.1]; exact hl.1) (argsL := as.map (am_v E)) (rest := S'.map (am_v E)) hlen (by simp [am_v]) (by show 2 * 0 + _ ≤ 8; rw [am_cw_ok]; omega) (by rw [C1.2.1]; exact hd) (by decide) (by decide)
    (fun vm₁ hW₁ => ⟨⟨rfl, rfl, hP, va_K.moved hW₁.alike C1.2.2.2.2.2.1, hD.weaken (fun _ _ _ _ => trivial)⟩, ⟨State.WarmedH.trans hs.1 hW₁, hsT.2⟩⟩)
  obtain ⟨x, ce, h', T', L', X', ht, hq', hP', hD', hS', hce, hiss, hfc⟩ := tm_behind X₁ rfl ⟨C1.2.2.2.2.2.2.1, C1.2.2.2.2.2.2.2.1⟩ hS hended hq
  obtain ⟨vm', X'', hst2⟩ := hcat T' _ x ce ls (S'.map (am_v E)) X' hce hiss hfc
  obtain ⟨t2, a1, b1⟩ := hend T'.heap _ ls x h' hq' hP' hD' hS' hl (T'.setVm vm') rfl X''
  refine ⟨t2, hst _ ?_, b1⟩
  rw [ht]
  exact hst2 _ a1
theorem hp_w13 : Cond.classLink "PointDeskLaw" 13 tx_I ∈ am_Gw := am_Gin 636 (by decide +kernel) (by decide +kernel)
theorem hp_w15 : Cond.classLink "PointDeskLaw" 15 tx_A ∈ am_Gw := am_Gin 637 (by decide +kernel) (by decide +kernel)
theorem hp_x {c : Code} {a b d f : Nat} {t : List (Nat × Nat × Nat × Nat)} {es : List ExceptionTableEntry} (h : es.map (fun h => (h.startPc, h.endPc, h.handlerPc, h.catchType)) = (a, b, d, f) :: t) : ∃ x r, es = x :: r ∧ x.startPc = a ∧ x.endPc = b ∧ x.handlerPc = d ∧ x.catchType = f ∧ r.map (fun h => (h.startPc, h.endPc, h.handlerPc, h.catchType)) = t := by
  obtain ⟨x, r, e1, e2, e3⟩ := List.map_eq_cons_iff.mp h
  simp only [Prod.mk.injEq] at e2
  exact ⟨x, r, e1, e2.1, e2.2.1, e2.2.2.1, e2.2.2.2, e3⟩
set_option maxRecDepth 20000 in
set_option maxHeartbeats 2000000 in
theorem hp_at_0 {E : AE} {l : Launch} {s0 : State} {h : AH} {i w : Int} {Q : AR} (hg : am_g E l 29 [.inr (.inr 0), .inl i, .inl w] h (fun r h' => ∃ v : Int, r = some (.inl v) ∧ -2147483648 ≤ v ∧ v < 2147483648 ∧ Q (some (.inl 0)) (am_up h' 34 0 v))) : hp_G E l s0 q_L_at [.inr (.inr 0), .inl i, .inl w, .inr (.inr 34)] h Q := by
  refine hp_met U_L_at rfl (Nat.le_of_ble_eq_true rfl) (fun _ _ _ _ => False) (fun _ _ _ _ _ _ _ _ _ _ _ _ _ hk => hk.elim) ?_
  intro J hJ _
  refine hJ _ _ _ _ ?_
  refine hJ _ _ _ _ ?_
  refine hJ _ _ _ _ ?_
  refine hJ _ _ _ _ ?_
  refine hJ _ _ _ _ ?_
  refine hJ _ _ _ _ ?_
  refine am_g_mono hg ?_
  rintro _ h' ⟨v, rfl, v1, v2, hQ⟩
  repeat (first | refine hJ _ _ _ _ ?_ | refine And.intro (by omega) (fun _ => ?_) | refine And.intro (by omega) ?_ | refine And.intro (fun _ => ?_) (by omega))
  exact hQ
set_option maxRecDepth 20000 in
set_option maxHeartbeats 2000000 in
theorem hp_at_1 {E : AE} {l : Launch} {s0 : State} {h : AH} {i w : Int} {Q : AR} (h0 : tx_0 s0 E) (hz : tm_g E l s0 29 tm_R2 tx_I [.inr (.inr 0), .inl i, .inl w] h (fun h' => Q (some (.inl 1)) h')) : hp_G E l s0 q_L_at [.inr (.inr 0), .inl i, .inl w, .inr (.inr 34)] h Q := by
  refine hp_met U_L_at rfl (Nat.le_of_ble_eq_true rfl) (fun pc L S h' => pc = 5 ∧ L = am_l0 5 [.inr (.inr 0), .inl i, .inl w, .inr (.inr 34)] ∧ S = [.inl i, .inl w].reverse ++ .inr (.inr 0) :: [.inl 0, .inr (.inr 34)] ∧ h' = h) ?_ ?_
  · rintro p e s m args below meth c C _ _ _ h' ⟨rfl, rfl, rfl, rfl⟩
    refine hp_endV h0 C (k' := 29) (idx := 7) (n := 2) (kind := 1) (hpc := 13) (am_GV mL_7 v_De_at.1 v_De_at.2.1 v_De_at.2.2.1 v_De_at.2.2.2) ⟨rfl, v_De_atd⟩ (by decide) (by decide +kernel) _ [.inl 0, .inr (.inr 34)] _ [.inl i, .inl w] (Nat.le_of_ble_eq_true rfl) rfl hz ?_ ?_
    · intro T' locs' x ce ls st X' hce hiss hfc
      obtain ⟨x1, r1, e1, s1, s2, s3, s4, er⟩ := hp_x (c := c) C.2.2.1
      have := tx_catch1 X' x (g := F0 m 5 ls st) rfl (own := "PointDeskLaw") (name := tx_I) (cls := tx_I) C.1.2.2.2.1 e1 (by simp [covers, s1, s2]) (by rw [s4]; decide) (by rw [s4]; exact C.1.2.2.2.2.1 _ (List.mem_cons_of_mem _ hp_w13)) hce hiss hfc (hp_cast h0 C.2.1).1
      rw [s3] at this
      exact this
    · intro H locs ls x h'' hq hP hD hS hl
      refine lv_astore (i := 4) C.1.1 C.1.2.1 (by decide +kernel) hl (by decide) rfl (fun ls' _ => ?_)
      refine lv_iconst (n := 1) (v := Int32.ofInt 1) C.1.1 C.1.2.1 (by decide +kernel) rfl ?_
      exact W.iret C.1.1 C.1.2.1 C.2.2.2 (fun t ht hW => ⟨⟨some (.inl 1), h'', rfl, hq, by rw [ht]; exact hP, va_K.moved hW.alike C.1.2.2.2.2.2.1, hD⟩, hS.F ht⟩) hS.2.2 (by decide +kernel) C.1.2.2.2.2.2.2.2.2
  · intro J hJ hE
    refine hJ _ _ _ _ ?_
    refine hJ _ _ _ _ ?_
    refine hJ _ _ _ _ ?_
    refine hJ _ _ _ _ ?_
    refine hJ _ _ _ _ ?_
    exact hE _ _ _ _ ⟨rfl, rfl, rfl, rfl⟩
set_option maxRecDepth 20000 in
set_option maxHeartbeats 2000000 in
theorem hp_at_2 {E : AE} {l : Launch} {s0 : State} {h : AH} {i w : Int} {Q : AR} (h0 : tx_0 s0 E) (hz : tm_g E l s0 29 tm_R2 tx_A [.inr (.inr 0), .inl i, .inl w] h (fun h' => Q (some (.inl 2)) h')) : hp_G E l s0 q_L_at [.inr (.inr 0), .inl i, .inl w, .inr (.inr 34)] h Q := by
  refine hp_met U_L_at rfl (Nat.le_of_ble_eq_true rfl) (fun pc L S h' => pc = 5 ∧ L = am_l0 5 [.inr (.inr 0), .inl i, .inl w, .inr (.inr 34)] ∧ S = [.inl i, .inl w].reverse ++ .inr (.inr 0) :: [.inl 0, .inr (.inr 34)] ∧ h' = h) ?_ ?_
  · rintro p e s m args below meth c C _ _ _ h' ⟨rfl, rfl, rfl, rfl⟩
    refine hp_endV h0 C (k' := 29) (idx := 7) (n := 2) (kind := 2) (hpc := 17) (am_GV mL_7 v_De_at.1 v_De_at.2.1 v_De_at.2.2.1 v_De_at.2.2.2) ⟨rfl, v_De_atd⟩ (by decide) (by decide +kernel) _ [.inl 0, .inr (.inr 34)] _ [.inl i, .inl w] (Nat.le_of_ble_eq_true rfl) rfl hz ?_ ?_
    · intro T' locs' x ce ls st X' hce hiss hfc
      obtain ⟨x1, r1, e1, s1, s2, s3, s4, er⟩ := hp_x (c := c) C.2.2.1
      obtain ⟨x2, r2, e2, t1, t2, t3, t4, -⟩ := hp_x (c := c) er
      subst e2
      have := tx_catch2 X' x (g := F0 m 5 ls st) rfl (own := "PointDeskLaw") (name := tx_I) (name2 := tx_A) (cls := tx_A) C.1.2.2.2.1 e1 (by simp [covers, s1, s2]) (by rw [s4]; decide) (by simp [covers, t1, t2]) (by rw [t4]; decide) (by rw [s4]; exact C.1.2.2.2.2.1 _ (List.mem_cons_of_mem _ hp_w13)) (by rw [t4]; exact C.1.2.2.2.2.1 _ (List.mem_cons_of_mem _ hp_w15)) hce hiss hfc (hp_cast h0 C.2.1 (args := args)).2.2 (hp_cast h0 C.2.1).2.1
      rw [t3] at this
      exact this
    · intro H locs ls x h'' hq hP hD hS hl
      refine lv_astore (i := 4) C.1.1 C.1.2.1 (by decide +kernel) hl (by decide) rfl (fun ls' _ => ?_)
      refine lv_iconst (n := 2) (v := Int32.ofInt 2) C.1.1 C.1.2.1 (by decide +kernel) rfl ?_
      exact W.iret C.1.1 C.1.2.1 C.2.2.2 (fun t ht hW => ⟨⟨some (.inl 2), h'', rfl, hq, by rw [ht]; exact hP, va_K.moved hW.alike C.1.2.2.2.2.2.1, hD⟩, hS.F ht⟩) hS.2.2 (by decide +kernel) C.1.2.2.2.2.2.2.2.2
  · intro J hJ hE
    refine hJ _ _ _ _ ?_
    refine hJ _ _ _ _ ?_
    refine hJ _ _ _ _ ?_
    refine hJ _ _ _ _ ?_
    refine hJ _ _ _ _ ?_
    exact hE _ _ _ _ ⟨rfl, rfl, rfl, rfl⟩
set_option maxRecDepth 20000 in
set_option maxHeartbeats 2000000 in
theorem hp_distance_0 {E : AE} {l : Launch} {s0 : State} {h : AH} {i k : Int} {Q : AR} (hg : am_g E l 35 [.inr (.inr 0), .inl i, .inl k] h (fun r h' => ∃ v : Int, r = some (.inr (.inl v)) ∧ Q (some (.inl 0)) (am_up h' 34 0 v))) : hp_G E l s0 q_L_distance [.inr (.inr 0), .inl i, .inl k, .inr (.inr 34)] h Q := by
  refine hp_met U_L_distance rfl (Nat.le_of_ble_eq_true rfl) (fun _ _ _ _ => False) (fun _ _ _ _ _ _ _ _ _ _ _ _ _ hk => hk.elim) ?_
  intro J hJ _
  refine hJ _ _ _ _ ?_
  refine hJ _ _ _ _ ?_
  refine hJ _ _ _ _ ?_
  refine hJ _ _ _ _ ?_
  refine hJ _ _ _ _ ?_
  refine hJ _ _ _ _ ?_
  refine am_g_mono hg ?_
  rintro _ h' ⟨v, rfl, hQ⟩
  repeat (first | refine hJ _ _ _ _ ?_ | refine And.intro (by omega) (fun _ => ?_) | refine And.intro (by omega) ?_ | refine And.intro (fun _ => ?_) (by omega))
  exact hQ
set_option maxRecDepth 20000 in
set_option maxHeartbeats 2000000 in
theorem hp_distance_1 {E : AE} {l : Launch} {s0 : State} {h : AH} {i k : Int} {Q : AR} (h0 : tx_0 s0 E) (hz : tm_g E l s0 35 tm_R2 tx_I [.inr (.inr 0), .inl i, .inl k] h (fun h' => Q (some (.inl 1)) h')) : hp_G E l s0 q_L_distance [.inr (.inr 0), .inl i, .inl k, .inr (.inr 34)] h Q := by
  refine hp_met U_L_distance rfl (Nat.le_of_ble_eq_true rfl) (fun pc L S h' => pc = 5 ∧ L = am_l0 5 [.inr (.inr 0), .inl i, .inl k, .inr (.inr 34)] ∧ S = [.inl i, .inl k].reverse ++ .inr (.inr 0) :: [.inl 0, .inr (.inr 34)] ∧ h' = h) ?_ ?_
  · rintro p e s m args below meth c C _ _ _ h' ⟨rfl, rfl, rfl, rfl⟩
    refine hp_endV h0 C (k' := 35) (idx := 17) (n := 2) (kind := 1) (hpc := 12) (am_GV mL_17 v_De_distance.1 v_De_distance.2.1 v_De_distance.2.2.1 v_De_distance.2.2.2) ⟨rfl, v_De_distanced⟩ (by decide) (by decide +kernel) _ [.inl 0, .inr (.inr 34)] _ [.inl i, .inl k] (Nat.le_of_ble_eq_true rfl) rfl hz ?_ ?_
    · intro T' locs' x ce ls st X' hce hiss hfc
      obtain ⟨x1, r1, e1, s1, s2, s3, s4, er⟩ := hp_x (c := c) C.2.2.1
      have := tx_catch1 X' x (g := F0 m 5 ls st) rfl (own := "PointDeskLaw") (name := tx_I) (cls := tx_I) C.1.2.2.2.1 e1 (by simp [covers, s1, s2]) (by rw [s4]; decide) (by rw [s4]; exact C.1.2.2.2.2.1 _ (List.mem_cons_of_mem _ hp_w13)) hce hiss hfc (hp_cast h0 C.2.1).1
      rw [s3] at this
      exact this
    · intro H locs ls x h'' hq hP hD hS hl
      refine lv_astore (i := 4) C.1.1 C.1.2.1 (by decide +kernel) hl (by decide) rfl (fun ls' _ => ?_)
      refine lv_iconst (n := 1) (v := Int32.ofInt 1) C.1.1 C.1.2.1 (by decide +kernel) rfl ?_
      exact W.iret C.1.1 C.1.2.1 C.2.2.2 (fun t ht hW => ⟨⟨some (.inl 1), h'', rfl, hq, by rw [ht]; exact hP, va_K.moved hW.alike C.1.2.2.2.2.2.1, hD⟩, hS.F ht⟩) hS.2.2 (by decide +kernel) C.1.2.2.2.2.2.2.2.2
  · intro J hJ hE
    refine hJ _ _ _ _ ?_
    refine hJ _ _ _ _ ?_
    refine hJ _ _ _ _ ?_
    refine hJ _ _ _ _ ?_
    refine hJ _ _ _ _ ?_
    exact hE _ _ _ _ ⟨rfl, rfl, rfl, rfl⟩
set_option maxRecDepth 20000 in
set_option maxHeartbeats 2000000 in
theorem hp_side_0 {E : AE} {l : Launch} {s0 : State} {h : AH} {i w : Int} {Q : AR} (hg : am_g E l 46 [.inr (.inr 0), .inl i, .inl w] h (fun r h' => ∃ v : Int, r = some (.inr (.inl v)) ∧ Q (some (.inl 0)) (am_up h' 34 0 v))) : hp_G E l s0 q_L_side [.inr (.inr 0), .inl i, .inl w, .inr (.inr 34)] h Q := by
  refine hp_met U_L_side rfl (Nat.le_of_ble_eq_true rfl) (fun _ _ _ _ => False) (fun _ _ _ _ _ _ _ _ _ _ _ _ _ hk => hk.elim) ?_
  intro J hJ _
  refine hJ _ _ _ _ ?_
  refine hJ _ _ _ _ ?_
  refine hJ _ _ _ _ ?_
  refine hJ _ _ _ _ ?_
  refine hJ _ _ _ _ ?_
  refine hJ _ _ _ _ ?_
  refine am_g_mono hg ?_
  rintro _ h' ⟨v, rfl, hQ⟩
  repeat (first | refine hJ _ _ _ _ ?_ | refine And.intro (by omega) (fun _ => ?_) | refine And.intro (by omega) ?_ | refine And.intro (fun _ => ?_) (by omega))
  exact hQ
set_option maxRecDepth 20000 in
set_option maxHeartbeats 2000000 in
theorem hp_side_1 {E : AE} {l : Launch} {s0 : State} {h : AH} {i w : Int} {Q : AR} (h0 : tx_0 s0 E) (hz : tm_g E l s0 46 tm_R2 tx_I [.inr (.inr 0), .inl i, .inl w] h (fun h' => Q (some (.inl 1)) h')) : hp_G E l s0 q_L_side [.inr (.inr 0), .inl i, .inl w, .inr (.inr 34)] h Q := by
  refine hp_met U_L_side rfl (Nat.le_of_ble_eq_true rfl) (fun pc L S h' => pc = 5 ∧ L = am_l0 5 [.inr (.inr 0), .inl i, .inl w, .inr (.inr 34)] ∧ S = [.inl i, .inl w].reverse ++ .inr (.inr 0) :: [.inl 0, .inr (.inr 34)] ∧ h' = h) ?_ ?_
  · rintro p e s m args below meth c C _ _ _ h' ⟨rfl, rfl, rfl, rfl⟩
    refine hp_endV h0 C (k' := 46) (idx := 21) (n := 2) (kind := 1) (hpc := 12) (am_GV mL_21 v_De_side.1 v_De_side.2.1 v_De_side.2.2.1 v_De_side.2.2.2) ⟨rfl, v_De_sided⟩ (by decide) (by decide +kernel) _ [.inl 0, .inr (.inr 34)] _ [.inl i, .inl w] (Nat.le_of_ble_eq_true rfl) rfl hz ?_ ?_
    · intro T' locs' x ce ls st X' hce hiss hfc
      obtain ⟨x1, r1, e1, s1, s2, s3, s4, er⟩ := hp_x (c := c) C.2.2.1
      have := tx_catch1 X' x (g := F0 m 5 ls st) rfl (own := "PointDeskLaw") (name := tx_I) (cls := tx_I) C.1.2.2.2.1 e1 (by simp [covers, s1, s2]) (by rw [s4]; decide) (by rw [s4]; exact C.1.2.2.2.2.1 _ (List.mem_cons_of_mem _ hp_w13)) hce hiss hfc (hp_cast h0 C.2.1).1
      rw [s3] at this
      exact this
    · intro H locs ls x h'' hq hP hD hS hl
      refine lv_astore (i := 4) C.1.1 C.1.2.1 (by decide +kernel) hl (by decide) rfl (fun ls' _ => ?_)
      refine lv_iconst (n := 1) (v := Int32.ofInt 1) C.1.1 C.1.2.1 (by decide +kernel) rfl ?_
      exact W.iret C.1.1 C.1.2.1 C.2.2.2 (fun t ht hW => ⟨⟨some (.inl 1), h'', rfl, hq, by rw [ht]; exact hP, va_K.moved hW.alike C.1.2.2.2.2.2.1, hD⟩, hS.F ht⟩) hS.2.2 (by decide +kernel) C.1.2.2.2.2.2.2.2.2
  · intro J hJ hE
    refine hJ _ _ _ _ ?_
    refine hJ _ _ _ _ ?_
    refine hJ _ _ _ _ ?_
    refine hJ _ _ _ _ ?_
    refine hJ _ _ _ _ ?_
    exact hE _ _ _ _ ⟨rfl, rfl, rfl, rfl⟩
set_option maxRecDepth 20000 in
set_option maxHeartbeats 2000000 in
theorem hp_side_2 {E : AE} {l : Launch} {s0 : State} {h : AH} {i w : Int} {Q : AR} (h0 : tx_0 s0 E) (hz : tm_g E l s0 46 tm_R2 tx_A [.inr (.inr 0), .inl i, .inl w] h (fun h' => Q (some (.inl 2)) h')) : hp_G E l s0 q_L_side [.inr (.inr 0), .inl i, .inl w, .inr (.inr 34)] h Q := by
  refine hp_met U_L_side rfl (Nat.le_of_ble_eq_true rfl) (fun pc L S h' => pc = 5 ∧ L = am_l0 5 [.inr (.inr 0), .inl i, .inl w, .inr (.inr 34)] ∧ S = [.inl i, .inl w].reverse ++ .inr (.inr 0) :: [.inl 0, .inr (.inr 34)] ∧ h' = h) ?_ ?_
  · rintro p e s m args below meth c C _ _ _ h' ⟨rfl, rfl, rfl, rfl⟩
    refine hp_endV h0 C (k' := 46) (idx := 21) (n := 2) (kind := 2) (hpc := 16) (am_GV mL_21 v_De_side.1 v_De_side.2.1 v_De_side.2.2.1 v_De_side.2.2.2) ⟨rfl, v_De_sided⟩ (by decide) (by decide +kernel) _ [.inl 0, .inr (.inr 34)] _ [.inl i, .inl w] (Nat.le_of_ble_eq_true rfl) rfl hz ?_ ?_
    · intro T' locs' x ce ls st X' hce hiss hfc
      obtain ⟨x1, r1, e1, s1, s2, s3, s4, er⟩ := hp_x (c := c) C.2.2.1
      obtain ⟨x2, r2, e2, t1, t2, t3, t4, -⟩ := hp_x (c := c) er
      subst e2
      have := tx_catch2 X' x (g := F0 m 5 ls st) rfl (own := "PointDeskLaw") (name := tx_I) (name2 := tx_A) (cls := tx_A) C.1.2.2.2.1 e1 (by simp [covers, s1, s2]) (by rw [s4]; decide) (by simp [covers, t1, t2]) (by rw [t4]; decide) (by rw [s4]; exact C.1.2.2.2.2.1 _ (List.mem_cons_of_mem _ hp_w13)) (by rw [t4]; exact C.1.2.2.2.2.1 _ (List.mem_cons_of_mem _ hp_w15)) hce hiss hfc (hp_cast h0 C.2.1 (args := args)).2.2 (hp_cast h0 C.2.1).2.1
      rw [t3] at this
      exact this
    · intro H locs ls x h'' hq hP hD hS hl
      refine lv_astore (i := 4) C.1.1 C.1.2.1 (by decide +kernel) hl (by decide) rfl (fun ls' _ => ?_)
      refine lv_iconst (n := 2) (v := Int32.ofInt 2) C.1.1 C.1.2.1 (by decide +kernel) rfl ?_
      exact W.iret C.1.1 C.1.2.1 C.2.2.2 (fun t ht hW => ⟨⟨some (.inl 2), h'', rfl, hq, by rw [ht]; exact hP, va_K.moved hW.alike C.1.2.2.2.2.2.1, hD⟩, hS.F ht⟩) hS.2.2 (by decide +kernel) C.1.2.2.2.2.2.2.2.2
  · intro J hJ hE
    refine hJ _ _ _ _ ?_
    refine hJ _ _ _ _ ?_
    refine hJ _ _ _ _ ?_
    refine hJ _ _ _ _ ?_
    refine hJ _ _ _ _ ?_
    exact hE _ _ _ _ ⟨rfl, rfl, rfl, rfl⟩
set_option maxRecDepth 20000 in
set_option maxHeartbeats 2000000 in
theorem hp_where_0 {E : AE} {l : Launch} {s0 : State} {h : AH} {x y : Int} {Q : AR} (hg : am_g E l 49 [.inr (.inr 0), .inl x, .inl y] h (fun r h' => ∃ v : Int, r = some (.inl v) ∧ -2147483648 ≤ v ∧ v < 2147483648 ∧ Q (some (.inl 0)) (am_up h' 34 0 v))) : hp_G E l s0 q_L_where [.inr (.inr 0), .inl x, .inl y, .inr (.inr 34)] h Q := by
  refine hp_met U_L_where rfl (Nat.le_of_ble_eq_true rfl) (fun _ _ _ _ => False) (fun _ _ _ _ _ _ _ _ _ _ _ _ _ hk => hk.elim) ?_
  intro J hJ _
  refine hJ _ _ _ _ ?_
  refine hJ _ _ _ _ ?_
  refine hJ _ _ _ _ ?_
  refine hJ _ _ _ _ ?_
  refine hJ _ _ _ _ ?_
  refine hJ _ _ _ _ ?_
  refine am_g_mono hg ?_
  rintro _ h' ⟨v, rfl, v1, v2, hQ⟩
  repeat (first | refine hJ _ _ _ _ ?_ | refine And.intro (by omega) (fun _ => ?_) | refine And.intro (by omega) ?_ | refine And.intro (fun _ => ?_) (by omega))
  exact hQ
set_option maxRecDepth 20000 in
set_option maxHeartbeats 2000000 in
theorem hp_where_1 {E : AE} {l : Launch} {s0 : State} {h : AH} {x y : Int} {Q : AR} (h0 : tx_0 s0 E) (hz : tm_g E l s0 49 tm_R2 tx_A [.inr (.inr 0), .inl x, .inl y] h (fun h' => Q (some (.inl 1)) h')) : hp_G E l s0 q_L_where [.inr (.inr 0), .inl x, .inl y, .inr (.inr 34)] h Q := by
  refine hp_met U_L_where rfl (Nat.le_of_ble_eq_true rfl) (fun pc L S h' => pc = 5 ∧ L = am_l0 5 [.inr (.inr 0), .inl x, .inl y, .inr (.inr 34)] ∧ S = [.inl x, .inl y].reverse ++ .inr (.inr 0) :: [.inl 0, .inr (.inr 34)] ∧ h' = h) ?_ ?_
  · rintro p e s m args below meth c C _ _ _ h' ⟨rfl, rfl, rfl, rfl⟩
    refine hp_endV h0 C (k' := 49) (idx := 24) (n := 2) (kind := 1) (hpc := 13) (am_GV mL_24 v_De_where.1 v_De_where.2.1 v_De_where.2.2.1 v_De_where.2.2.2) ⟨rfl, v_De_whered⟩ (by decide) (by decide +kernel) _ [.inl 0, .inr (.inr 34)] _ [.inl x, .inl y] (Nat.le_of_ble_eq_true rfl) rfl hz ?_ ?_
    · intro T' locs' x ce ls st X' hce hiss hfc
      obtain ⟨x1, r1, e1, s1, s2, s3, s4, er⟩ := hp_x (c := c) C.2.2.1
      have := tx_catch1 X' x (g := F0 m 5 ls st) rfl (own := "PointDeskLaw") (name := tx_A) (cls := tx_A) C.1.2.2.2.1 e1 (by simp [covers, s1, s2]) (by rw [s4]; decide) (by rw [s4]; exact C.1.2.2.2.2.1 _ (List.mem_cons_of_mem _ hp_w15)) hce hiss hfc (hp_cast h0 C.2.1).2.1
      rw [s3] at this
      exact this
    · intro H locs ls x h'' hq hP hD hS hl
      refine lv_astore (i := 4) C.1.1 C.1.2.1 (by decide +kernel) hl (by decide) rfl (fun ls' _ => ?_)
      refine lv_iconst (n := 1) (v := Int32.ofInt 1) C.1.1 C.1.2.1 (by decide +kernel) rfl ?_
      exact W.iret C.1.1 C.1.2.1 C.2.2.2 (fun t ht hW => ⟨⟨some (.inl 1), h'', rfl, hq, by rw [ht]; exact hP, va_K.moved hW.alike C.1.2.2.2.2.2.1, hD⟩, hS.F ht⟩) hS.2.2 (by decide +kernel) C.1.2.2.2.2.2.2.2.2
  · intro J hJ hE
    refine hJ _ _ _ _ ?_
    refine hJ _ _ _ _ ?_
    refine hJ _ _ _ _ ?_
    refine hJ _ _ _ _ ?_
    refine hJ _ _ _ _ ?_
    exact hE _ _ _ _ ⟨rfl, rfl, rfl, rfl⟩
set_option maxRecDepth 20000 in
set_option maxHeartbeats 2000000 in
theorem hp_nearest_0 {E : AE} {l : Launch} {s0 : State} {h : AH} {x y : Int} {Q : AR} (hg : am_g E l 50 [.inr (.inr 0), .inl x, .inl y] h (fun r h' => ∃ v : Int, r = some (.inl v) ∧ -2147483648 ≤ v ∧ v < 2147483648 ∧ Q (some (.inl 0)) (am_up h' 34 0 v))) : hp_G E l s0 q_L_nearest [.inr (.inr 0), .inl x, .inl y, .inr (.inr 34)] h Q := by
  refine hp_met U_L_nearest rfl (Nat.le_of_ble_eq_true rfl) (fun _ _ _ _ => False) (fun _ _ _ _ _ _ _ _ _ _ _ _ _ hk => hk.elim) ?_
  intro J hJ _
  refine hJ _ _ _ _ ?_
  refine hJ _ _ _ _ ?_
  refine hJ _ _ _ _ ?_
  refine hJ _ _ _ _ ?_
  refine hJ _ _ _ _ ?_
  refine hJ _ _ _ _ ?_
  refine am_g_mono hg ?_
  rintro _ h' ⟨v, rfl, v1, v2, hQ⟩
  repeat (first | refine hJ _ _ _ _ ?_ | refine And.intro (by omega) (fun _ => ?_) | refine And.intro (by omega) ?_ | refine And.intro (fun _ => ?_) (by omega))
  exact hQ
set_option maxRecDepth 20000 in
set_option maxHeartbeats 2000000 in
theorem hp_nearest_1 {E : AE} {l : Launch} {s0 : State} {h : AH} {x y : Int} {Q : AR} (h0 : tx_0 s0 E) (hz : tm_g E l s0 50 tm_R2 tx_A [.inr (.inr 0), .inl x, .inl y] h (fun h' => Q (some (.inl 1)) h')) : hp_G E l s0 q_L_nearest [.inr (.inr 0), .inl x, .inl y, .inr (.inr 34)] h Q := by
  refine hp_met U_L_nearest rfl (Nat.le_of_ble_eq_true rfl) (fun pc L S h' => pc = 5 ∧ L = am_l0 5 [.inr (.inr 0), .inl x, .inl y, .inr (.inr 34)] ∧ S = [.inl x, .inl y].reverse ++ .inr (.inr 0) :: [.inl 0, .inr (.inr 34)] ∧ h' = h) ?_ ?_
  · rintro p e s m args below meth c C _ _ _ h' ⟨rfl, rfl, rfl, rfl⟩
    refine hp_endV h0 C (k' := 50) (idx := 27) (n := 2) (kind := 1) (hpc := 13) (am_GV mL_27 v_De_nearest.1 v_De_nearest.2.1 v_De_nearest.2.2.1 v_De_nearest.2.2.2) ⟨rfl, v_De_nearestd⟩ (by decide) (by decide +kernel) _ [.inl 0, .inr (.inr 34)] _ [.inl x, .inl y] (Nat.le_of_ble_eq_true rfl) rfl hz ?_ ?_
    · intro T' locs' x ce ls st X' hce hiss hfc
      obtain ⟨x1, r1, e1, s1, s2, s3, s4, er⟩ := hp_x (c := c) C.2.2.1
      have := tx_catch1 X' x (g := F0 m 5 ls st) rfl (own := "PointDeskLaw") (name := tx_A) (cls := tx_A) C.1.2.2.2.1 e1 (by simp [covers, s1, s2]) (by rw [s4]; decide) (by rw [s4]; exact C.1.2.2.2.2.1 _ (List.mem_cons_of_mem _ hp_w15)) hce hiss hfc (hp_cast h0 C.2.1).2.1
      rw [s3] at this
      exact this
    · intro H locs ls x h'' hq hP hD hS hl
      refine lv_astore (i := 4) C.1.1 C.1.2.1 (by decide +kernel) hl (by decide) rfl (fun ls' _ => ?_)
      refine lv_iconst (n := 1) (v := Int32.ofInt 1) C.1.1 C.1.2.1 (by decide +kernel) rfl ?_
      exact W.iret C.1.1 C.1.2.1 C.2.2.2 (fun t ht hW => ⟨⟨some (.inl 1), h'', rfl, hq, by rw [ht]; exact hP, va_K.moved hW.alike C.1.2.2.2.2.2.1, hD⟩, hS.F ht⟩) hS.2.2 (by decide +kernel) C.1.2.2.2.2.2.2.2.2
  · intro J hJ hE
    refine hJ _ _ _ _ ?_
    refine hJ _ _ _ _ ?_
    refine hJ _ _ _ _ ?_
    refine hJ _ _ _ _ ?_
    refine hJ _ _ _ _ ?_
    exact hE _ _ _ _ ⟨rfl, rfl, rfl, rfl⟩
set_option maxRecDepth 20000 in
set_option maxHeartbeats 2000000 in
theorem hp_beside_0 {E : AE} {l : Launch} {s0 : State} {h : AH} {i k w : Int} {Q : AR} (hg : am_g E l 52 [.inr (.inr 0), .inl i, .inl k, .inl w] h (fun r h' => ∃ v : Int, r = some (.inl v) ∧ -2147483648 ≤ v ∧ v < 2147483648 ∧ Q (some (.inl 0)) (am_up h' 34 0 v))) : hp_G E l s0 q_L_beside [.inr (.inr 0), .inl i, .inl k, .inl w, .inr (.inr 34)] h Q := by
  refine hp_met U_L_beside rfl (Nat.le_of_ble_eq_true rfl) (fun _ _ _ _ => False) (fun _ _ _ _ _ _ _ _ _ _ _ _ _ hk => hk.elim) ?_
  intro J hJ _
  refine hJ _ _ _ _ ?_
  refine hJ _ _ _ _ ?_
  refine hJ _ _ _ _ ?_
  refine hJ _ _ _ _ ?_
  refine hJ _ _ _ _ ?_
  refine hJ _ _ _ _ ?_
  refine hJ _ _ _ _ ?_
  refine am_g_mono hg ?_
  rintro _ h' ⟨v, rfl, v1, v2, hQ⟩
  repeat (first | refine hJ _ _ _ _ ?_ | refine And.intro (by omega) (fun _ => ?_) | refine And.intro (by omega) ?_ | refine And.intro (fun _ => ?_) (by omega))
  exact hQ
set_option maxRecDepth 20000 in
set_option maxHeartbeats 2000000 in
theorem hp_beside_1 {E : AE} {l : Launch} {s0 : State} {h : AH} {i k w : Int} {Q : AR} (h0 : tx_0 s0 E) (hz : tm_g E l s0 52 tm_R2 tx_I [.inr (.inr 0), .inl i, .inl k, .inl w] h (fun h' => Q (some (.inl 1)) h')) : hp_G E l s0 q_L_beside [.inr (.inr 0), .inl i, .inl k, .inl w, .inr (.inr 34)] h Q := by
  refine hp_met U_L_beside rfl (Nat.le_of_ble_eq_true rfl) (fun pc L S h' => pc = 7 ∧ L = am_l0 6 [.inr (.inr 0), .inl i, .inl k, .inl w, .inr (.inr 34)] ∧ S = [.inl i, .inl k, .inl w].reverse ++ .inr (.inr 0) :: [.inl 0, .inr (.inr 34)] ∧ h' = h) ?_ ?_
  · rintro p e s m args below meth c C _ _ _ h' ⟨rfl, rfl, rfl, rfl⟩
    refine hp_endV h0 C (k' := 52) (idx := 30) (n := 3) (kind := 1) (hpc := 15) (am_GV mL_30 v_De_beside.1 v_De_beside.2.1 v_De_beside.2.2.1 v_De_beside.2.2.2) ⟨rfl, v_De_besided⟩ (by decide) (by decide +kernel) _ [.inl 0, .inr (.inr 34)] _ [.inl i, .inl k, .inl w] (Nat.le_of_ble_eq_true rfl) rfl hz ?_ ?_
    · intro T' locs' x ce ls st X' hce hiss hfc
      obtain ⟨x1, r1, e1, s1, s2, s3, s4, er⟩ := hp_x (c := c) C.2.2.1
      have := tx_catch1 X' x (g := F0 m 7 ls st) rfl (own := "PointDeskLaw") (name := tx_I) (cls := tx_I) C.1.2.2.2.1 e1 (by simp [covers, s1, s2]) (by rw [s4]; decide) (by rw [s4]; exact C.1.2.2.2.2.1 _ (List.mem_cons_of_mem _ hp_w13)) hce hiss hfc (hp_cast h0 C.2.1).1
      rw [s3] at this
      exact this
    · intro H locs ls x h'' hq hP hD hS hl
      refine lv_astore (i := 5) C.1.1 C.1.2.1 (by decide +kernel) hl (by decide) rfl (fun ls' _ => ?_)
      refine lv_iconst (n := 1) (v := Int32.ofInt 1) C.1.1 C.1.2.1 (by decide +kernel) rfl ?_
      exact W.iret C.1.1 C.1.2.1 C.2.2.2 (fun t ht hW => ⟨⟨some (.inl 1), h'', rfl, hq, by rw [ht]; exact hP, va_K.moved hW.alike C.1.2.2.2.2.2.1, hD⟩, hS.F ht⟩) hS.2.2 (by decide +kernel) C.1.2.2.2.2.2.2.2.2
  · intro J hJ hE
    refine hJ _ _ _ _ ?_
    refine hJ _ _ _ _ ?_
    refine hJ _ _ _ _ ?_
    refine hJ _ _ _ _ ?_
    refine hJ _ _ _ _ ?_
    refine hJ _ _ _ _ ?_
    exact hE _ _ _ _ ⟨rfl, rfl, rfl, rfl⟩
set_option maxRecDepth 20000 in
set_option maxHeartbeats 2000000 in
theorem hp_turn_0 {E : AE} {l : Launch} {s0 : State} {h : AH} {i k : Int} {Q : AR} (hg : am_g E l 58 [.inr (.inr 0), .inl i, .inl k] h (fun r h' => r = none ∧ Q (some (.inl 0)) h')) : hp_G E l s0 q_L_turn [.inr (.inr 0), .inl i, .inl k] h Q := by
  refine hp_met U_L_turn rfl (Nat.le_of_ble_eq_true rfl) (fun _ _ _ _ => False) (fun _ _ _ _ _ _ _ _ _ _ _ _ _ hk => hk.elim) ?_
  intro J hJ _
  refine hJ _ _ _ _ ?_
  refine hJ _ _ _ _ ?_
  refine hJ _ _ _ _ ?_
  refine hJ _ _ _ _ ?_
  refine am_g_mono hg ?_
  rintro _ h' ⟨rfl, hQ⟩
  repeat (first | refine hJ _ _ _ _ ?_ | refine And.intro (by omega) (fun _ => ?_) | refine And.intro (by omega) ?_ | refine And.intro (fun _ => ?_) (by omega))
  exact hQ
set_option maxRecDepth 20000 in
set_option maxHeartbeats 2000000 in
theorem hp_turn_1 {E : AE} {l : Launch} {s0 : State} {h : AH} {i k : Int} {Q : AR} (h0 : tx_0 s0 E) (hz : tm_g E l s0 58 tm_R2 tx_I [.inr (.inr 0), .inl i, .inl k] h (fun h' => Q (some (.inl 1)) h')) : hp_G E l s0 q_L_turn [.inr (.inr 0), .inl i, .inl k] h Q := by
  refine hp_met U_L_turn rfl (Nat.le_of_ble_eq_true rfl) (fun pc L S h' => pc = 3 ∧ L = am_l0 4 [.inr (.inr 0), .inl i, .inl k] ∧ S = [.inl i, .inl k].reverse ++ .inr (.inr 0) :: [] ∧ h' = h) ?_ ?_
  · rintro p e s m args below meth c C _ _ _ h' ⟨rfl, rfl, rfl, rfl⟩
    refine hp_endV h0 C (k' := 58) (idx := 34) (n := 2) (kind := 1) (hpc := 9) (am_GV mL_34 v_De_turn.1 v_De_turn.2.1 v_De_turn.2.2.1 v_De_turn.2.2.2) ⟨rfl, v_De_turnd⟩ (by decide) (by decide +kernel) _ [] _ [.inl i, .inl k] (Nat.le_of_ble_eq_true rfl) rfl hz ?_ ?_
    · intro T' locs' x ce ls st X' hce hiss hfc
      obtain ⟨x1, r1, e1, s1, s2, s3, s4, er⟩ := hp_x (c := c) C.2.2.1
      have := tx_catch1 X' x (g := F0 m 3 ls st) rfl (own := "PointDeskLaw") (name := tx_I) (cls := tx_I) C.1.2.2.2.1 e1 (by simp [covers, s1, s2]) (by rw [s4]; decide) (by rw [s4]; exact C.1.2.2.2.2.1 _ (List.mem_cons_of_mem _ hp_w13)) hce hiss hfc (hp_cast h0 C.2.1).1
      rw [s3] at this
      exact this
    · intro H locs ls x h'' hq hP hD hS hl
      refine lv_astore_n (k := 3) C.1.1 C.1.2.1 (by decide +kernel) rfl hl (by decide) rfl (fun ls' _ => ?_)
      refine lv_iconst (n := 1) (v := Int32.ofInt 1) C.1.1 C.1.2.1 (by decide +kernel) rfl ?_
      exact W.iret C.1.1 C.1.2.1 C.2.2.2 (fun t ht hW => ⟨⟨some (.inl 1), h'', rfl, hq, by rw [ht]; exact hP, va_K.moved hW.alike C.1.2.2.2.2.2.1, hD⟩, hS.F ht⟩) hS.2.2 (by decide +kernel) C.1.2.2.2.2.2.2.2.2
  · intro J hJ hE
    refine hJ _ _ _ _ ?_
    refine hJ _ _ _ _ ?_
    refine hJ _ _ _ _ ?_
    exact hE _ _ _ _ ⟨rfl, rfl, rfl, rfl⟩
set_option maxRecDepth 20000 in
set_option maxHeartbeats 2000000 in
theorem hp_inside_0 {E : AE} {l : Launch} {s0 : State} {h : AH} {x y : Int} {Q : AR} (hg : am_g E l 75 [.inr (.inr 0), .inl x, .inl y] h (fun r h' => ∃ v : Int, r = some (.inl v) ∧ -2147483648 ≤ v ∧ v < 2147483648 ∧ Q (some (.inl 0)) (am_up h' 34 0 v))) : hp_G E l s0 q_L_inside [.inr (.inr 0), .inl x, .inl y, .inr (.inr 34)] h Q := by
  refine hp_met U_L_inside rfl (Nat.le_of_ble_eq_true rfl) (fun _ _ _ _ => False) (fun _ _ _ _ _ _ _ _ _ _ _ _ _ hk => hk.elim) ?_
  intro J hJ _
  refine hJ _ _ _ _ ?_
  refine hJ _ _ _ _ ?_
  refine hJ _ _ _ _ ?_
  refine hJ _ _ _ _ ?_
  refine hJ _ _ _ _ ?_
  refine hJ _ _ _ _ ?_
  refine am_g_mono hg ?_
  rintro _ h' ⟨v, rfl, v1, v2, hQ⟩
  repeat (first | refine hJ _ _ _ _ ?_ | refine And.intro (by omega) (fun _ => ?_) | refine And.intro (by omega) ?_ | refine And.intro (fun _ => ?_) (by omega))
  exact hQ
set_option maxRecDepth 20000 in
set_option maxHeartbeats 2000000 in
theorem hp_inside_1 {E : AE} {l : Launch} {s0 : State} {h : AH} {x y : Int} {Q : AR} (h0 : tx_0 s0 E) (hz : tm_g E l s0 75 tm_R2 tx_A [.inr (.inr 0), .inl x, .inl y] h (fun h' => Q (some (.inl 1)) h')) : hp_G E l s0 q_L_inside [.inr (.inr 0), .inl x, .inl y, .inr (.inr 34)] h Q := by
  refine hp_met U_L_inside rfl (Nat.le_of_ble_eq_true rfl) (fun pc L S h' => pc = 5 ∧ L = am_l0 5 [.inr (.inr 0), .inl x, .inl y, .inr (.inr 34)] ∧ S = [.inl x, .inl y].reverse ++ .inr (.inr 0) :: [.inl 0, .inr (.inr 34)] ∧ h' = h) ?_ ?_
  · rintro p e s m args below meth c C _ _ _ h' ⟨rfl, rfl, rfl, rfl⟩
    refine hp_endV h0 C (k' := 75) (idx := 38) (n := 2) (kind := 1) (hpc := 13) (am_GV mL_38 v_De_inside.1 v_De_inside.2.1 v_De_inside.2.2.1 v_De_inside.2.2.2) ⟨rfl, v_De_insided⟩ (by decide) (by decide +kernel) _ [.inl 0, .inr (.inr 34)] _ [.inl x, .inl y] (Nat.le_of_ble_eq_true rfl) rfl hz ?_ ?_
    · intro T' locs' x ce ls st X' hce hiss hfc
      obtain ⟨x1, r1, e1, s1, s2, s3, s4, er⟩ := hp_x (c := c) C.2.2.1
      have := tx_catch1 X' x (g := F0 m 5 ls st) rfl (own := "PointDeskLaw") (name := tx_A) (cls := tx_A) C.1.2.2.2.1 e1 (by simp [covers, s1, s2]) (by rw [s4]; decide) (by rw [s4]; exact C.1.2.2.2.2.1 _ (List.mem_cons_of_mem _ hp_w15)) hce hiss hfc (hp_cast h0 C.2.1).2.1
      rw [s3] at this
      exact this
    · intro H locs ls x h'' hq hP hD hS hl
      refine lv_astore (i := 4) C.1.1 C.1.2.1 (by decide +kernel) hl (by decide) rfl (fun ls' _ => ?_)
      refine lv_iconst (n := 1) (v := Int32.ofInt 1) C.1.1 C.1.2.1 (by decide +kernel) rfl ?_
      exact W.iret C.1.1 C.1.2.1 C.2.2.2 (fun t ht hW => ⟨⟨some (.inl 1), h'', rfl, hq, by rw [ht]; exact hP, va_K.moved hW.alike C.1.2.2.2.2.2.1, hD⟩, hS.F ht⟩) hS.2.2 (by decide +kernel) C.1.2.2.2.2.2.2.2.2
  · intro J hJ hE
    refine hJ _ _ _ _ ?_
    refine hJ _ _ _ _ ?_
    refine hJ _ _ _ _ ?_
    refine hJ _ _ _ _ ?_
    refine hJ _ _ _ _ ?_
    exact hE _ _ _ _ ⟨rfl, rfl, rfl, rfl⟩
