/-! constructors: calls and contracts -/
/-- a constructor: name, code, locals, room: frames, words, cells, slots -/
abbrev AK : Type := MethodName × ByteArray × Nat × Nat × Nat × Nat × Nat
abbrev AK.ws (q : AK) (Gw : List Cond) : List Cond := Cond.code q.1 q.2.1 q.2.2.1 none :: Gw
abbrev AK.mc (q : AK) : Nat := q.2.2.2.2.2.1
abbrev AK.ms (q : AK) : Nat := q.2.2.2.2.2.2
abbrev AK.rm (q : AK) : Room := { frames := q.2.2.2.1, cells := AK.mc q, slots := AK.ms q, locals := q.2.2.2.2.1 }
def nm_A (n : Nat) (E : AE) (sz : Nat) : Nat → Prop := fun a => (∃ c, c < n ∧ a = E.2.2 c) ∨ sz ≤ a
def nm_Pc (cl : List vw_C) (E : AE) (sz : Nat) (Y : List NL) (as : List AV) (h : AH) : Array Value → State → Prop := va_Pc (as.map (am_v E)) (fun U => U.heap.size = sz ∧ va_P E.1 cl (nm_w Y E h) U.heap ∧ va_K E.1 cl (am_tys E) U ∧ va_D (fun _ => True) (nm_w Y E h) ∧ nm_N U)
def nm_Q (cl : List vw_C) (E : AE) (A : Nat → Prop) (Y : List NL) (mc ms : Nat) (Qp : NR) : Array Value → State → Outcome → State → Prop := fun _ st oc t =>
  (∃ (Y' : List NL) (ad' : Nat → Nat) (h' : AH), oc = .returned none ∧ Qp Y' h' ∧ (∀ k, k < Y.length ∨ 1000 ≤ k → ad' k = E.2.2 k) ∧ Y'.length = Y.length + mc ∧ nm_sz Y' = nm_sz Y + ms ∧ va_P E.1 cl (nm_w Y' (nm_ad E ad') h') t.heap ∧ va_K E.1 cl (am_tys E) t ∧ va_D A (nm_w Y' (nm_ad E ad') h')) ∧ va_F A st t
def nm_G (cl : List vw_C) (E0 : AE) (l : Launch) (Gw : List Cond) (ki : Nat → AK) : NG := fun k Y as h Qp =>
  ∀ (ad : Nat → Nat) (sz : Nat), Met l (ki k).1 (AK.ws (ki k) Gw) (AK.rm (ki k)) (nm_Pc cl (nm_ad E0 ad) sz Y as h) (nm_Q cl (nm_ad E0 ad) (nm_A Y.length (nm_ad E0 ad) sz) Y (AK.mc (ki k)) (AK.ms (ki k)) Qp) (AK.mc (ki k)) (AK.ms (ki k)) (nm_A Y.length (nm_ad E0 ad) sz)
theorem nm_Pc_blind {cl : List vw_C} {E : AE} {sz : Nat} {Y : List NL} {as : List AV} {h : AH} : FrameBlind (nm_Pc cl E sz Y as h) := fun a U g mk q => by
  obtain ⟨q0, q1, qP, qK, qD, qN⟩ := q
  exact ⟨q0, q1, qP, va_K.moved (u := U) (U := U.calling g mk a) (Vm.Alike.refl U.vm) qK, qD, nm_N.same (u := U) (U := U.calling g mk a) rfl qN⟩
section NC
variable {cl : List vw_C} {E0 : AE} {n0 z0 : Nat} {A : Nat → Prop} {p : Program} {l : Launch} {e : Env} {R : Room} {s : State} {m : MethodId} {args : Array Value} {below : List Frame} {meth : Method} {c : Code} {nL : Nat} {Q : State → Prop} {cc : ByteArray} {own : String} {Ts : List Cond} {G : NG} {Rt : NR} {pc : Nat}
theorem nm_back (X : nm_C cl E0 A p s m args meth c nL cc own Ts) {Y : List NL} {L : List (Option AV)} {S' : List AV} {ad : Nat → Nat} {h : AH} {H : Heap} {locs : List Loc} {ls : Array Slot} {st0 : List Value} {a : Array Value} {K : NR} {mc2 ms2 : Nat} (had : ∀ k, k < n0 ∨ 1000 ≤ k → ad k = E0.2.2 k) (hn0 : n0 ≤ Y.length) (hz0 : z0 ≤ nm_sz Y) (hDw : va_D A (nm_w Y (nm_ad E0 ad) h)) (hvl : nm_vl Y.length L = true) (hvr : nm_vr Y.length S' = true) (hS : va_S A s.heap H locs) (hl : lv_has ls nL (am_a (nm_ad E0 ad) 0 L))
    (hr : va_Run p l e R s m args below meth c H locs (Y.length - n0) (nm_sz Y - z0) mc2 ms2 (F0 m pc ls st0) (S'.map (am_v (nm_ad E0 ad))) (nm_Q cl (nm_ad E0 ad) (nm_A Y.length (nm_ad E0 ad) H.size) Y mc2 ms2 K a) (nm_A Y.length (nm_ad E0 ad) H.size))
    (hk : ∀ Y' h', K Y' h' → nm_J cl E0 n0 z0 A p l e R s m args below meth c nL Q Y' (pc + 3) L S' h') : W p l e R s m args below meth c H locs (Y.length - n0) (nm_sz Y - z0) Q (F0 m pc ls st0) := by
  have sub : ∀ q, nm_A Y.length (nm_ad E0 ad) H.size q → A q := by
    intro q hq
    rcases hq with ⟨k, hk, rfl⟩ | hq
    · have : (nm_w Y (nm_ad E0 ad) h)[k]? = some (ad k, nm_c (nm_ad E0 ad) (h k) Y[k]) := nm_w_at (List.getElem?_eq_getElem hk)
      exact hDw.2 k _ this
    · exact X.2.2.2.2.2.2.1 q (Nat.le_trans hS.1 hq)
  intro T hT X0
  obtain ⟨v, st₀, t, T', L1, h0, X', hL, e1, e2, ⟨⟨Y', ad', h', hv, hp, ha, hlen, hsz, hP, hK, hD⟩, hz, hf⟩, st⟩ := hr T hT X0
  cases hv
  rw [h0] at hz hf
  have hS' : va_S A s.heap T'.heap (locs ++ L1) := by
    refine ⟨Nat.le_trans hS.1 (by rw [e1]; exact hz), fun q h1 h2 => ?_, fun q hq => ?_⟩
    · rw [e1, hf q (Nat.lt_of_lt_of_le h1 hS.1) (fun z => h2 (sub q z))]
      exact hS.2.1 q h1 h2
    · rcases List.mem_append.mp hq with h | h
      · exact hS.2.2 q h
      · exact sub _ (hL q h)
  have hE : ∀ k, k < Y.length ∨ 1000 ≤ k → (nm_ad E0 ad').2.2 k = (nm_ad E0 ad).2.2 k := ha
  have hj := hk Y' h' hp ad' (fun k hk => by rw [ha k (by omega)]; exact had k hk) T'.heap (locs ++ L1) ls (by rw [e1]; exact hP) (hD.weaken (fun _ q _ h => sub q.1 h)) hS' (by rw [nm_vl_ok hE 0 hvl]; exact hl)
  rw [nm_vr_ok hE hvr, hlen, hsz, show Y.length + mc2 - n0 = Y.length - n0 + mc2 by omega, show nm_sz Y + ms2 - z0 = nm_sz Y - z0 + ms2 by omega] at hj
  obtain ⟨t2, a1, b1⟩ := hj T' rfl X'
  exact ⟨t2, st t2 a1, b1⟩
theorem nm_call_ok (X : nm_C cl E0 A p s m args meth c nL cc own Ts) {Gw : List Cond} {ki : Nat → AK} {mc ms k n idx : Nat} (hG : GoodIn Ts (AK.ws (ki k) Gw)) (w1 : Cond.initialized (ki k).1.cls ∈ Ts) (w2 : Cond.methodLink own idx (ki k).1 ∈ Ts) (w3 : Cond.instanceMethod (ki k).1 ∈ Ts) (hnm : (ki k).1.name = "<init>")
    (hd0 : (ki k).1.cls ≠ "java/lang/invoke/MethodHandle" ∧ (ki k).1.cls ≠ "java/lang/invoke/VarHandle" ∧ (parseMethodDescriptor (ki k).1.desc).map (fun d => d.parameters.length) = some n)
    (hR : (AK.rm (ki k)).frames + 1 ≤ R.frames ∧ 8 + ((ki k).2.2.1 + 11) + (AK.rm (ki k)).locals ≤ R.locals) (hRc : mc ≤ R.cells) (hRs : ms ≤ R.slots) (hd : decode cc pc = .ok (.invokespecial idx, 3)) : nm_sd (nm_G cl E0 l Gw ki) (nm_J cl E0 n0 z0 A p l e R s m args below meth c nL Q) Rt (nm_call n0 z0 mc ms k n (AK.mc (ki k)) (AK.ms (ki k))) pc := by
  intro Y L S h hk ad had H locs ls hP hD hS hl
  unfold nm_call at hk
  obtain ⟨as, S', h1, h2, h3⟩ := am_pop_ok _ _ _ _ hk
  rw [List.append_nil] at h1
  split at h1
  · rename_i q as'
    split at h1
    · rename_i hb
      simp only [Bool.and_eq_true] at hb
      obtain ⟨b0, ⟨⟨⟨⟨⟨⟨b1, b3⟩, b4⟩, b5⟩, b6⟩, b7⟩, b8⟩⟩ := hb
      have b0 := Nat.le_of_ble_eq_true b0
      have b5 := Nat.le_of_ble_eq_true b5
      have b6 := Nat.le_of_ble_eq_true b6
      have b7 := Nat.le_of_ble_eq_true b7
      have b8 := Nat.le_of_ble_eq_true b8
      have hM := h1 ad H.size
      have hlen : as'.length = n := by simpa using h3
      refine nm_back X (mc2 := AK.mc (ki k)) (ms2 := AK.ms (ki k)) (a := (Value.ref ((nm_ad E0 ad).2.2 q) :: as'.map (am_v (nm_ad E0 ad))).toArray) (K := fun Y' h' => nm_J cl E0 n0 z0 A p l e R s m args below meth c nL Q Y' (pc + 3) L S' h') had b5 b6 hD b3 b4 hS hl ?_ (fun _ _ hj => hj)
      refine va_runI (As := as'.map (am_v (nm_ad E0 ad))) (rest := S'.map (am_v (nm_ad E0 ad))) (b := (nm_ad E0 ad).2.2 q) ⟨X.1, X.2.1, X.2.2.1, X.2.2.2.1, X.2.2.2.2.1⟩ hM (cwI n X.2.2.2.2.1 hG rfl rfl rfl (X.2.2.2.2.1 _ w1) (X.2.2.2.2.1 _ w2) (X.2.2.2.2.1 _ w3) hnm hd0 hR) ⟨nm_Pc_blind, fun U hU hW => ⟨rfl, by rw [hU], by rw [hU]; exact hP, va_K.moved hW.alike X.2.2.2.2.2.1, hD.weaken (fun _ _ _ _ => trivial), nm_N.warm hW X.2.2.2.2.2.2.2.2⟩⟩ rfl (by simpa using hlen) hl.1 ?_ ?_ hd ⟨by omega, by omega⟩
      · show S.map (am_v (nm_ad E0 ad)) = _
        rw [h2]
        simp [am_v]
      · show 2 * 0 + _ ≤ 8
        rw [am_cw_ok]
        omega
    · exact h1.elim
  · exact h1.elim
theorem nm_callN_ok (X : nm_C cl E0 A p s m args meth c nL cc own Ts) {Gw : List Cond} {ki : Nat → AK} {mc ms k n idx : Nat} {host : String} (hG : GoodIn Ts (AK.ws (ki k) Gw)) (w1 : Cond.initialized (ki k).1.cls ∈ Ts) (w2 : va_Nw (.methodLinkNest own idx (ki k).1 host) s) (w3 : Cond.instanceMethod (ki k).1 ∈ Ts) (hnm : (ki k).1.name = "<init>")
    (hd0 : (ki k).1.cls ≠ "java/lang/invoke/MethodHandle" ∧ (ki k).1.cls ≠ "java/lang/invoke/VarHandle" ∧ (parseMethodDescriptor (ki k).1.desc).map (fun d => d.parameters.length) = some n)
    (hR : (AK.rm (ki k)).frames + 1 ≤ R.frames ∧ 8 + ((ki k).2.2.1 + 11) + (AK.rm (ki k)).locals ≤ R.locals) (hRc : mc ≤ R.cells) (hRs : ms ≤ R.slots) (hd : decode cc pc = .ok (.invokespecial idx, 3)) : nm_sd (nm_G cl E0 l Gw ki) (nm_J cl E0 n0 z0 A p l e R s m args below meth c nL Q) Rt (nm_call n0 z0 mc ms k n (AK.mc (ki k)) (AK.ms (ki k))) pc := by
  intro Y L S h hk ad had H locs ls hP hD hS hl
  unfold nm_call at hk
  obtain ⟨as, S', h1, h2, h3⟩ := am_pop_ok _ _ _ _ hk
  rw [List.append_nil] at h1
  split at h1
  · rename_i q as'
    split at h1
    · rename_i hb
      simp only [Bool.and_eq_true] at hb
      obtain ⟨b0, ⟨⟨⟨⟨⟨⟨b1, b3⟩, b4⟩, b5⟩, b6⟩, b7⟩, b8⟩⟩ := hb
      have b0 := Nat.le_of_ble_eq_true b0
      have b5 := Nat.le_of_ble_eq_true b5
      have b6 := Nat.le_of_ble_eq_true b6
      have b7 := Nat.le_of_ble_eq_true b7
      have b8 := Nat.le_of_ble_eq_true b8
      have hM := h1 ad H.size
      have hlen : as'.length = n := by simpa using h3
      refine nm_back X (mc2 := AK.mc (ki k)) (ms2 := AK.ms (ki k)) (a := (Value.ref ((nm_ad E0 ad).2.2 q) :: as'.map (am_v (nm_ad E0 ad))).toArray) (K := fun Y' h' => nm_J cl E0 n0 z0 A p l e R s m args below meth c nL Q Y' (pc + 3) L S' h') had b5 b6 hD b3 b4 hS hl ?_ (fun _ _ hj => hj)
      refine va_runIN (As := as'.map (am_v (nm_ad E0 ad))) (rest := S'.map (am_v (nm_ad E0 ad))) (b := (nm_ad E0 ad).2.2 q) ⟨X.1, X.2.1, X.2.2.1, X.2.2.2.1, X.2.2.2.2.1⟩ hM ⟨va_cnB n X.2.2.2.2.1 hG rfl rfl rfl w2 (X.2.2.2.2.1 _ w1) hd0 hR, hnm, X.2.2.2.2.1 _ w3⟩ ⟨nm_Pc_blind, fun U hU hW => ⟨rfl, by rw [hU], by rw [hU]; exact hP, va_K.moved hW.alike X.2.2.2.2.2.1, hD.weaken (fun _ _ _ _ => trivial), nm_N.warm hW X.2.2.2.2.2.2.2.2⟩⟩ rfl (by simpa using hlen) hl.1 ?_ ?_ hd ⟨by omega, by omega⟩
      · show S.map (am_v (nm_ad E0 ad)) = _
        rw [h2]
        simp [am_v]
      · show 2 * 0 + _ ≤ 8
        rw [am_cw_ok]
        omega
    · exact h1.elim
  · exact h1.elim
theorem nm_ret_ok (X : nm_C cl E0 A p s m args meth c nL cc own Ts) {Y0 : List NL} {mc ms : Nat} (h0 : Y0.length = n0) (hz : nm_sz Y0 = z0) (hr : meth.sig.returnType = none) (hd : decode cc pc = .ok (.return_, 1)) : nm_sd G (nm_J cl E0 n0 z0 A p l e R s m args below meth c nL (MQ below (nm_Q cl E0 A Y0 mc ms Rt) args s mc ms A)) Rt (nm_ret n0 z0 mc ms) pc := by
  intro Y L S h hk ad had H locs ls hP hD hS hl
  unfold nm_ret at hk
  split at hk
  · split at hk
    · rename_i hb
      simp only [Bool.and_eq_true] at hb
      have b1 := Nat.eq_of_beq_eq_true hb.1
      have b2 := Nat.eq_of_beq_eq_true hb.2
      rw [show Y.length - n0 = mc by omega, show nm_sz Y - z0 = ms by omega]
      exact W.vret X.1 X.2.1 hr (fun t ht hW => ⟨⟨Y, ad, h, rfl, hk, fun k hk => had k (by omega), by omega, by omega, by rw [ht]; exact hP, va_K.moved hW.alike X.2.2.2.2.2.1, hD⟩, hS.F ht⟩) hS.2.2 hd X.2.2.2.2.2.2.2.1
    · exact hk.elim
  · exact hk.elim
end NC
abbrev NT : Type := List (Nat × ND)
def nm_s (tbl : NT) (G : NG) (J : NJ) (Rt : NR) : NJ := fun Y pc L S h => match tbl.lookup pc with
  | some f => f G J Rt Y pc L S h
  | none => False
def nm_T (cl : List vw_C) (Gw : List Cond) (ki : Nat → AK) (k n0 z0 : Nat) (tbl : NT) : Prop :=
  ∀ (E0 : AE) (Y0 : List NL) (A : Nat → Prop) (p : Program) (l : Launch) (e : Env) (s : State) (m : MethodId) (args : Array Value) (below : List Frame) (meth : Method) (c : Code) (Rt : NR),
    Y0.length = n0 → nm_sz Y0 = z0 → nm_C cl E0 A p s m args meth c (ki k).2.2.1 (ki k).2.1 (ki k).1.cls (AK.ws (ki k) Gw) → meth.sig.returnType = none → meth.name = (ki k).1.name →
    ∀ q ∈ tbl, nm_sd (nm_G cl E0 l Gw ki) (nm_J cl E0 n0 z0 A p l e (AK.rm (ki k)) s m args below meth c (ki k).2.2.1 (MQ below (nm_Q cl E0 A Y0 (AK.mc (ki k)) (AK.ms (ki k)) Rt) args s (AK.mc (ki k)) (AK.ms (ki k)) A)) Rt q.2 q.1
theorem nm_met {cl : List vw_C} {Gw : List Cond} {ki : Nat → AK} {k n0 z0 : Nat} {tbl : NT} (hT : nm_T cl Gw ki k n0 z0 tbl) (hpl : plainName (ki k).1.cls = true) {E0 : AE} {l : Launch} {Y : List NL} {as : List AV} {h : AH} {Qp : NR} (h0 : Y.length = n0) (hz : nm_sz Y = z0) (haw : am_aw as ≤ (ki k).2.2.1)
    (hbody : ∀ (G : NG) (J : NJ), G = nm_G cl E0 l Gw ki → (∀ Y pc L S h, nm_s tbl G J Qp Y pc L S h → J Y pc L S h) → J Y 0 (am_l0 (ki k).2.2.1 as) [] h) : nm_G cl E0 l Gw ki k Y as h Qp := by
  subst h0
  subst hz
  intro ad sz
  refine Met.ofW (cc := (ki k).2.1) (maxL := (ki k).2.2.1) (ret := none) hpl rfl ?_
  intro p e s m args below meth c s₁ B hml hv
  obtain ⟨rfl, hsz, hP, hK, hD0, hN⟩ := hv
  subst hsz
  have hD : va_D (nm_A Y.length (nm_ad E0 ad) s.heap.size) (nm_w Y (nm_ad E0 ad) h) := by
    refine ⟨hD0.1, fun i q hq => ?_⟩
    unfold nm_w at hq
    rw [List.getElem?_mapIdx] at hq
    cases hy : Y[i]? with
    | none => rw [hy] at hq; cases hq
    | some y =>
      rw [hy] at hq
      cases hq
      exact .inl ⟨i, (List.getElem?_eq_some_iff.mp hy).1, rfl⟩
  have X : nm_C cl (nm_ad E0 ad) (nm_A Y.length (nm_ad E0 ad) s.heap.size) p s m (as.map (am_v (nm_ad E0 ad))).toArray meth c (ki k).2.2.1 (ki k).2.1 (ki k).1.cls (AK.ws (ki k) Gw) :=
    ⟨B.exec, B.bytes, hml, findClass_of_methodNamed B.named, atoms_spec (ws := AK.ws (ki k) Gw) B.pre, hK, fun q hq => .inr hq, B.notSynchronized, hN⟩
  have hl := lv_entry (as.map (am_v (nm_ad E0 ad))) (n := (ki k).2.2.1) (by rw [am_aw_ok]; exact haw)
  rw [lg_entry_eq]
  have hname : meth.name = (ki k).1.name := (name_of_methodNamed B.named B.method).1
  have hj := hbody (nm_G cl E0 l Gw ki) (nm_J cl (nm_ad E0 ad) Y.length (nm_sz Y) (nm_A Y.length (nm_ad E0 ad) s.heap.size) p l e (AK.rm (ki k)) s m (as.map (am_v (nm_ad E0 ad))).toArray below meth c (ki k).2.2.1 (MQ below (nm_Q cl (nm_ad E0 ad) (nm_A Y.length (nm_ad E0 ad) s.heap.size) Y (AK.mc (ki k)) (AK.ms (ki k)) Qp) (as.map (am_v (nm_ad E0 ad))).toArray s (AK.mc (ki k)) (AK.ms (ki k)) (nm_A Y.length (nm_ad E0 ad) s.heap.size))) rfl (fun Y' pc L S h hs => by
    unfold nm_s at hs
    split at hs
    · rename_i f hf
      have hmem : (pc, f) ∈ tbl := by
        obtain ⟨l1, l2, e1, -⟩ := List.lookup_eq_some_iff.mp hf
        rw [e1]; simp
      exact hT (nm_ad E0 ad) Y _ p l e s m _ below meth c Qp rfl rfl X B.returns hname (pc, f) hmem Y' L S h hs
    · exact hs.elim) 
  have hj2 := hj ad (fun _ _ => rfl) s.heap [] _ hP hD va_S.rf ⟨hl.1, hl.2.1, fun q hq => hl.2.2 q (am_l0_mem (nm_ad E0 ad) as _ 0 q hq)⟩
  rw [Nat.sub_self, Nat.sub_self] at hj2
  exact hj2
