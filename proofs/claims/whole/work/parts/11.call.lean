/-! ends, calls, contracts -/
/-- how a method ends: its answer, the heap behind it, what else may have changed -/
def am_Q (Y : List AL) (cl : List vw_C) (E : AE) (A : Nat → Prop) (Qp : AR) : Array Value → State → Outcome → State → Prop := fun _ st oc t =>
  (∃ (r : Option AV) (h' : AH), oc = .returned (r.map (am_v E)) ∧ Qp r h' ∧ va_P E.1 cl (am_w Y E h') t.heap ∧ va_K E.1 cl (am_tys E) t ∧ va_D A (am_w Y E h')) ∧ va_F A st t
/-- a method: its name, code, locals, answer's type, room (frames, words) -/
abbrev AM : Type := MethodName × ByteArray × Nat × Option FieldType × Nat × Nat
abbrev AM.ws (q : AM) (Gw : List Cond) : List Cond := Cond.code q.1 q.2.1 q.2.2.1 q.2.2.2.1 :: Gw
abbrev AM.rm (q : AM) : Room := { frames := q.2.2.2.2.1, cells := 0, slots := 0, locals := q.2.2.2.2.2 }
def am_Pc (Y : List AL) (cl : List vw_C) (E : AE) (sz : Nat) (as : List AV) (h : AH) : Array Value → State → Prop := va_Pc (as.map (am_v E)) (fun U => U.heap.size = sz ∧ va_P E.1 cl (am_w Y E h) U.heap ∧ va_K E.1 cl (am_tys E) U ∧ va_D (fun _ => True) (am_w Y E h))
/-- the contract: from these arguments and this heap the method surely comes to Qp -/
def am_G (Y : List AL) (cl : List vw_C) (E : AE) (l : Launch) (Gw : List Cond) (mi : Nat → AM) : AG := fun k as h Qp =>
  ∀ sz : Nat, Met l (mi k).1 (AM.ws (mi k) Gw) (AM.rm (mi k)) (am_Pc Y cl E sz as h) (am_Q Y cl E (am_A Y E sz) Qp) 0 0 (am_A Y E sz)
theorem am_Pc_blind {Y : List AL} {cl : List vw_C} {E : AE} {sz : Nat} {as : List AV} {h : AH} : FrameBlind (am_Pc Y cl E sz as h) := fun a U g mk q => by
  obtain ⟨q0, q1, qP, qK, qD⟩ := q
  exact ⟨q0, q1, qP, va_K.moved (u := U) (U := U.calling g mk a) (Vm.Alike.refl U.vm) qK, qD⟩
def am_pop : Nat → List AV → List AV → (List AV → List AV → Prop) → Prop
  | 0, acc, S, k => k acc S
  | n + 1, acc, v :: S, k => am_pop n (v :: acc) S k
  | _ + 1, _, [], _ => False
theorem am_pop_ok : ∀ (n : Nat) (acc S : List AV) (k : List AV → List AV → Prop), am_pop n acc S k → ∃ as S', k (as ++ acc) S' ∧ S = as.reverse ++ S' ∧ as.length = n
  | 0, acc, S, k, h => ⟨[], S, h, rfl, rfl⟩
  | n + 1, acc, v :: S, k, h => by
    obtain ⟨as, S', h1, h2, h3⟩ := am_pop_ok n (v :: acc) S k h
    exact ⟨as ++ [v], S', by simpa using h1, by simp [h2], by simp [h3]⟩
  | n + 1, acc, [], k, h => h.elim
def am_cw : List AV → Nat
  | [] => 0
  | .inr (.inl _) :: S => am_cw S + 2
  | .inl _ :: S => am_cw S + 1
  | .inr (.inr _) :: S => am_cw S + 1
theorem am_cw_ok (E : AE) : ∀ S : List AV, ((S.map (am_v E)).map fun v => v.category).sum = am_cw S
  | [] => rfl
  | .inr (.inl a) :: S => by have := am_cw_ok E S; simp only [List.map_cons, List.sum_cons, am_cw] at this ⊢; rw [this]; show 2 + _ = _; omega
  | .inl a :: S => by have := am_cw_ok E S; simp only [List.map_cons, List.sum_cons, am_cw] at this ⊢; rw [this]; show 1 + _ = _; omega
  | .inr (.inr a) :: S => by have := am_cw_ok E S; simp only [List.map_cons, List.sum_cons, am_cw] at this ⊢; rw [this]; show 1 + _ = _; omega
def am_on (r : Option AV) (S : List AV) : List AV := match r with
  | some v => v :: S
  | none => S
/-- a call of an object's method, with n arguments -/
def am_callV (Y : List AL) (ci k n : Nat) : AD := fun G J _ pc L S h => am_pop (n + 1) [] S (fun as S' => match as with
  | .inr (.inr q) :: _ => match Y[q]? with
    | some (.inl o) => match o.1 == ci, Nat.ble (am_cw S') 8 with
      | true, true => G k as h (fun r h' => J (pc + 3) L (am_on r S') h')
      | _, _ => False
    | _ => False
  | _ => False)
def am_callS (k n : Nat) : AD := fun G J _ pc L S h => am_pop n [] S (fun as S' => match Nat.ble (am_cw S') 8 with
  | true => G k as h (fun r h' => J (pc + 3) L (am_on r S') h')
  | _ => False)
def am_lmax : AD := fun _ J _ pc L S h => match S with
  | .inr (.inl b) :: .inr (.inl a) :: S => match Nat.ble (am_cw S) 8 with
    | true => (-9223372036854775808 ≤ a ∧ a < 9223372036854775808 ∧ -9223372036854775808 ≤ b ∧ b < 9223372036854775808) ∧ J (pc + 3) L (.inr (.inl (if b < a then a else b)) :: S) h
    | _ => False
  | _ => False
def am_lmin : AD := fun _ J _ pc L S h => match S with
  | .inr (.inl b) :: .inr (.inl a) :: S => match Nat.ble (am_cw S) 8 with
    | true => (-9223372036854775808 ≤ a ∧ a < 9223372036854775808 ∧ -9223372036854775808 ≤ b ∧ b < 9223372036854775808) ∧ J (pc + 3) L (.inr (.inl (if b < a then b else a)) :: S) h
    | _ => False
  | _ => False
/-- a switch over lo, lo + 1, .. -/
def am_tb (a : Int) (yes : Nat → Prop) : Int → List Nat → Prop
  | _, [] => True
  | lo, t :: ts => (a = lo → yes t) ∧ am_tb a yes (lo + 1) ts
def am_tsw (lo hi : Int) (dflt : Nat) (ts : List Nat) : AD := fun _ J _ _ L S h => match S with
  | .inl a :: S => (-2147483648 ≤ a ∧ a < 2147483648) ∧ ((a < lo ∨ hi < a) → J dflt L S h) ∧ am_tb a (fun t => J t L S h) lo ts
  | _ => False
section HC
variable {Y : List AL} {cl : List vw_C} {E : AE} {A : Nat → Prop} {p : Program} {l : Launch} {e : Env} {R : Room} {s : State} {m : MethodId} {args : Array Value} {below : List Frame} {meth : Method} {c : Code} {nL : Nat} {Q : State → Prop} {cc : ByteArray} {own : String} {Ts : List Cond} {G : AG} {Rt : AR} {pc : Nat} {cs : Nat × Nat}
theorem am_ret_ok (X : am_C Y cl E A p s m args meth c nL cc own Ts) (hr : meth.sig.returnType = some .int) (hd : decode cc pc = .ok (.ireturn, 1)) : am_sd G (am_J Y cl E A p l e R s m args below meth c nL (MQ below (am_Q Y cl E A Rt) args s 0 0 A)) Rt am_ret pc := by
  intro L S h hk H locs ls hP hD hS hl
  unfold am_ret at hk
  split at hk
  · rename_i v
    exact W.iret X.1 X.2.1 hr (fun t ht hW => ⟨⟨some (.inl v), h, rfl, hk, by rw [ht]; exact hP, va_K.moved hW.alike X.2.2.2.2.2.1, hD⟩, hS.F ht⟩) hS.2.2 hd X.2.2.2.2.2.2.2.2
  · exact hk.elim
theorem am_zret_ok (X : am_C Y cl E A p s m args meth c nL cc own Ts) (hr : meth.sig.returnType = some .boolean) (hd : decode cc pc = .ok (.ireturn, 1)) : am_sd G (am_J Y cl E A p l e R s m args below meth c nL (MQ below (am_Q Y cl E A Rt) args s 0 0 A)) Rt am_zret pc := by
  intro L S h hk H locs ls hP hD hS hl
  unfold am_zret at hk
  split at hk
  · rename_i v
    obtain ⟨hv, hk⟩ := hk
    exact W.zret X.1 X.2.1 hr (by rcases hv with rfl | rfl <;> rfl) (fun t ht hW => ⟨⟨some (.inl v), h, rfl, hk, by rw [ht]; exact hP, va_K.moved hW.alike X.2.2.2.2.2.1, hD⟩, hS.F ht⟩) hS.2.2 hd X.2.2.2.2.2.2.2.2
  · exact hk.elim
theorem am_lret_ok (X : am_C Y cl E A p s m args meth c nL cc own Ts) (hr : meth.sig.returnType = some .long) (hd : decode cc pc = .ok (.lreturn, 1)) : am_sd G (am_J Y cl E A p l e R s m args below meth c nL (MQ below (am_Q Y cl E A Rt) args s 0 0 A)) Rt am_lret pc := by
  intro L S h hk H locs ls hP hD hS hl
  unfold am_lret at hk
  split at hk
  · rename_i v
    exact W.lret X.1 X.2.1 hr (fun t ht hW => ⟨⟨some (.inr (.inl v)), h, rfl, hk, by rw [ht]; exact hP, va_K.moved hW.alike X.2.2.2.2.2.1, hD⟩, hS.F ht⟩) hS.2.2 hd X.2.2.2.2.2.2.2.2
  · exact hk.elim
theorem am_vret_ok (X : am_C Y cl E A p s m args meth c nL cc own Ts) (hr : meth.sig.returnType = none) (hd : decode cc pc = .ok (.return_, 1)) : am_sd G (am_J Y cl E A p l e R s m args below meth c nL (MQ below (am_Q Y cl E A Rt) args s 0 0 A)) Rt am_vret pc := by
  intro L S h hk H locs ls hP hD hS hl
  unfold am_vret at hk
  split at hk
  · exact W.vret X.1 X.2.1 hr (fun t ht hW => ⟨⟨none, h, rfl, hk, by rw [ht]; exact hP, va_K.moved hW.alike X.2.2.2.2.2.1, hD⟩, hS.F ht⟩) hS.2.2 hd X.2.2.2.2.2.2.2.2
  · exact hk.elim
/-- behind a call -/
theorem am_backc (X : am_C Y cl E A p s m args meth c nL cc own Ts) {L : List (Option AV)} {S' : List AV} {H : Heap} {locs : List Loc} {ls : Array Slot} {st0 : List Value} {a : Array Value} {K : AR} (hS : va_S A s.heap H locs) (hl : lv_has ls nL (am_a E 0 L))
    (hr : va_Run p l e R s m args below meth c H locs cs.1 cs.2 0 0 (F0 m pc ls st0) (S'.map (am_v E)) (am_Q Y cl E (am_A Y E H.size) K a) (am_A Y E H.size))
    (hk : ∀ r h', K r h' → am_Jc Y cl E A p l e R s m args below meth c nL Q cs (pc + 3) L (am_on r S') h') : W p l e R s m args below meth c H locs cs.1 cs.2 Q (F0 m pc ls st0) := by
  have sub : ∀ q, am_A Y E H.size q → A q := by
    intro q hq
    rcases hq with ⟨k, hk, rfl⟩ | hq
    · exact X.2.2.2.2.2.2.2.1 k hk
    · exact X.2.2.2.2.2.2.1 q (Nat.le_trans hS.1 hq)
  intro T hT X0
  obtain ⟨v, st₀, t, T', L1, h0, X', hL, e1, e2, ⟨⟨r, h', hv, hp, hP, hK, hD⟩, hz, hf⟩, st⟩ := hr T hT X0
  cases hv
  rw [h0] at hz hf
  have hS' : va_S A s.heap T'.heap (locs ++ L1) := by
    refine ⟨Nat.le_trans hS.1 (by rw [e1]; exact hz), fun q h1 h2 => ?_, fun q hq => ?_⟩
    · rw [e1, hf q (Nat.lt_of_lt_of_le h1 hS.1) (fun z => h2 (sub q z))]
      exact hS.2.1 q h1 h2
    · rcases List.mem_append.mp hq with h | h
      · exact hS.2.2 q h
      · exact sub _ (hL q h)
  have hj := hk r h' hp T'.heap (locs ++ L1) ls (by rw [e1]; exact hP) (hD.weaken (fun _ q _ h => sub q.1 h)) hS' hl
  have hst : (am_on r S').map (am_v E) = (r.map (am_v E)).toList ++ S'.map (am_v E) := by cases r <;> rfl
  rw [hst] at hj
  obtain ⟨t2, a1, b1⟩ := hj T' rfl X'
  exact ⟨t2, st t2 a1, b1⟩
theorem am_callVc_ok (X : am_C Y cl E A p s m args meth c nL cc own Ts) {Gw : List Cond} {mi : Nat → AM} {ci k n idx : Nat} {C : String} {T : u_T} {N : Nat} (hc : cl[ci]? = some (C, T, N)) (hG : GoodIn Ts (wsV own idx C (mi k).1 (AM.ws (mi k) Gw)))
    (hd0 : (mi k).1.cls = C ∧ (mi k).1.cls ≠ "java/lang/invoke/MethodHandle" ∧ (mi k).1.cls ≠ "java/lang/invoke/VarHandle" ∧ (parseMethodDescriptor (mi k).1.desc).map (fun d => d.parameters.length) = some n)
    (hR : (AM.rm (mi k)).frames + 1 ≤ R.frames ∧ 8 + ((mi k).2.2.1 + 11) + (AM.rm (mi k)).locals ≤ R.locals) (hRc : cs.1 ≤ R.cells ∧ cs.2 ≤ R.slots) (hd : decode cc pc = .ok (.invokevirtual idx, 3)) : am_sd (am_G Y cl E l Gw mi) (am_Jc Y cl E A p l e R s m args below meth c nL Q cs) Rt (am_callV Y ci k n) pc := by
  intro L S h hk H locs ls hP hD hS hl
  unfold am_callV at hk
  obtain ⟨as, S', h1, h2, h3⟩ := am_pop_ok _ _ _ _ hk
  rw [List.append_nil] at h1
  split at h1
  · rename_i q as'
    split at h1
    · rename_i o hY
      split at h1
      · rename_i e1 e2
        have e1 : o.1 = ci := by simpa using e1
        have e2 : am_cw S' ≤ 8 := Nat.le_of_ble_eq_true e2
        obtain ⟨o1, o2⟩ := o
        dsimp only at e1
        subst e1
        have hat := am_w_at (E := E) (h := h) hY
        have hM := h1 H.size
        have hlen : as'.length = n := by simpa using h3
        refine am_backc X (a := (Value.ref (E.2.2 q) :: as'.map (am_v E)).toArray) (K := fun r h' => am_Jc Y cl E A p l e R s m args below meth c nL Q cs (pc + 3) L (am_on r S') h') hS hl ?_ (fun r h' hj => hj)
        refine va_runV (As := as'.map (am_v E)) (rest := S'.map (am_v E)) (C := C) (b := E.2.2 q) ⟨X.1, X.2.1, X.2.2.1, X.2.2.2.1, X.2.2.2.2.1⟩ hM (cwV n X.2.2.2.2.1 hG rfl rfl rfl hd0 hR) ⟨am_Pc_blind, va_recv X.2.2.2.2.2.1 hP hc hat, fun U hU hW => ⟨rfl, by rw [hU], by rw [hU]; exact hP, va_K.moved hW.alike X.2.2.2.2.2.1, hD.weaken (fun _ _ _ _ => trivial)⟩⟩ rfl (by simpa using hlen) hl.1 ?_ ?_ hd ⟨by omega, by omega⟩
        · show S.map (am_v E) = _
          rw [h2]
          simp [am_v]
        · show 2 * 0 + _ ≤ 8
          rw [am_cw_ok]
          omega
      · exact h1.elim
    · exact h1.elim
  · exact h1.elim
theorem am_callSc_ok (X : am_C Y cl E A p s m args meth c nL cc own Ts) {Gw : List Cond} {mi : Nat → AM} {k n idx : Nat} (hG : GoodIn Ts (wsS own idx (mi k).1 (AM.ws (mi k) Gw)))
    (hd0 : (mi k).1.cls = own ∧ (mi k).1.cls ≠ "java/lang/invoke/MethodHandle" ∧ (mi k).1.cls ≠ "java/lang/invoke/VarHandle" ∧ (parseMethodDescriptor (mi k).1.desc).map (fun d => d.parameters.length) = some n)
    (hR : (AM.rm (mi k)).frames + 1 ≤ R.frames ∧ 8 + ((mi k).2.2.1 + 11) + (AM.rm (mi k)).locals ≤ R.locals) (hRc : cs.1 ≤ R.cells ∧ cs.2 ≤ R.slots) (hd : decode cc pc = .ok (.invokestatic idx, 3)) : am_sd (am_G Y cl E l Gw mi) (am_Jc Y cl E A p l e R s m args below meth c nL Q cs) Rt (am_callS k n) pc := by
  intro L S h hk H locs ls hP hD hS hl
  unfold am_callS at hk
  obtain ⟨as, S', h1, h2, h3⟩ := am_pop_ok _ _ _ _ hk
  rw [List.append_nil] at h1
  split at h1
  · rename_i e2
    have e2 : am_cw S' ≤ 8 := Nat.le_of_ble_eq_true e2
    have hM := h1 H.size
    refine am_backc X (a := (as.map (am_v E)).toArray) (K := fun r h' => am_Jc Y cl E A p l e R s m args below meth c nL Q cs (pc + 3) L (am_on r S') h') hS hl ?_ (fun r h' hj => hj)
    refine va_runS (As := as.map (am_v E)) (rest := S'.map (am_v E)) ⟨X.1, X.2.1, X.2.2.1, X.2.2.2.1, X.2.2.2.2.1⟩ hM (cwS n X.2.2.2.2.1 hG rfl rfl rfl hd0 hR) ⟨am_Pc_blind, fun U hU hW => ⟨rfl, by rw [hU], by rw [hU]; exact hP, va_K.moved hW.alike X.2.2.2.2.2.1, hD.weaken (fun _ _ _ _ => trivial)⟩⟩ rfl (by simpa using h3) hl.1 ?_ ?_ hd ⟨by omega, by omega⟩
    · show S.map (am_v E) = _
      rw [h2]
      simp
    · show 2 * 0 + _ ≤ 8
      rw [am_cw_ok]
      omega
  · exact h1.elim
theorem am_callV_ok (X : am_C Y cl E A p s m args meth c nL cc own Ts) {Gw : List Cond} {mi : Nat → AM} {ci k n idx : Nat} {C : String} {T : u_T} {N : Nat} (hc : cl[ci]? = some (C, T, N)) (hG : GoodIn Ts (wsV own idx C (mi k).1 (AM.ws (mi k) Gw)))
    (hd0 : (mi k).1.cls = C ∧ (mi k).1.cls ≠ "java/lang/invoke/MethodHandle" ∧ (mi k).1.cls ≠ "java/lang/invoke/VarHandle" ∧ (parseMethodDescriptor (mi k).1.desc).map (fun d => d.parameters.length) = some n)
    (hR : (AM.rm (mi k)).frames + 1 ≤ R.frames ∧ 8 + ((mi k).2.2.1 + 11) + (AM.rm (mi k)).locals ≤ R.locals) (hRc : 0 ≤ R.cells) (hd : decode cc pc = .ok (.invokevirtual idx, 3)) : am_sd (am_G Y cl E l Gw mi) (am_J Y cl E A p l e R s m args below meth c nL Q) Rt (am_callV Y ci k n) pc := am_callVc_ok X hc hG hd0 hR ⟨Nat.zero_le _, Nat.zero_le _⟩ hd
theorem am_callS_ok (X : am_C Y cl E A p s m args meth c nL cc own Ts) {Gw : List Cond} {mi : Nat → AM} {k n idx : Nat} (hG : GoodIn Ts (wsS own idx (mi k).1 (AM.ws (mi k) Gw)))
    (hd0 : (mi k).1.cls = own ∧ (mi k).1.cls ≠ "java/lang/invoke/MethodHandle" ∧ (mi k).1.cls ≠ "java/lang/invoke/VarHandle" ∧ (parseMethodDescriptor (mi k).1.desc).map (fun d => d.parameters.length) = some n)
    (hR : (AM.rm (mi k)).frames + 1 ≤ R.frames ∧ 8 + ((mi k).2.2.1 + 11) + (AM.rm (mi k)).locals ≤ R.locals) (hd : decode cc pc = .ok (.invokestatic idx, 3)) : am_sd (am_G Y cl E l Gw mi) (am_J Y cl E A p l e R s m args below meth c nL Q) Rt (am_callS k n) pc := am_callSc_ok X hG hd0 hR ⟨Nat.zero_le _, Nat.zero_le _⟩ hd
theorem am_lmax_ok (X : am_C Y cl E A p s m args meth c nL cc own Ts) {idx : Nat} (w1 : Cond.methodLink own idx Lib.MathLoose.max_long.x ∈ Ts) (w2 : Cond.static Lib.MathLoose.max_long.x ∈ Ts) (w3 : Cond.initialized "java/lang/Math" ∈ Ts) (w4 : Cond.code Lib.MathLoose.max_long.x Lib.MathLoose.max_long.code 4 (some .long) ∈ Ts) (hf : 1 ≤ R.frames) (hlo : 23 ≤ R.locals) (hd : decode cc pc = .ok (.invokestatic idx, 3)) : am_sd G (am_J Y cl E A p l e R s m args below meth c nL Q) Rt am_lmax pc := by
  intro L S h hk H locs ls hP hD hS hl
  unfold am_lmax at hk
  split at hk
  · split at hk
    · rename_i b a S _ e2
      have e2 : am_cw S ≤ 8 := Nat.le_of_ble_eq_true e2
      obtain ⟨⟨h1, h2, h3, h4⟩, hk⟩ := hk
      refine va_mmax_long X.1 X.2.1 (by rw [X.2.2.1]; exact hl.1.symm) X.2.2.2.1 (X.2.2.2.2.1 _ w1) (X.2.2.2.2.1 _ w2) (X.2.2.2.2.1 _ w3) (X.2.2.2.2.1 _ w4) hf (by rw [am_cw_ok]; omega) (Nat.zero_le _) (Nat.zero_le _) hd ?_
      have hv : (if Int64.ofInt b < Int64.ofInt a then Int64.ofInt a else Int64.ofInt b) = Int64.ofInt (if b < a then a else b) := by
        have q := nu_llt h3 h4 h1 h2
        by_cases g : b < a
        · rw [if_pos (q.mpr g), if_pos g]
        · rw [if_neg (fun z => g (q.mp z)), if_neg g]
      rw [hv]
      exact hk H locs ls hP hD hS hl
    · exact hk.elim
  · exact hk.elim
theorem am_lmin_ok (X : am_C Y cl E A p s m args meth c nL cc own Ts) {idx : Nat} (w1 : Cond.methodLink own idx Lib.MathLoose.min_long.x ∈ Ts) (w2 : Cond.static Lib.MathLoose.min_long.x ∈ Ts) (w3 : Cond.initialized "java/lang/Math" ∈ Ts) (w4 : Cond.code Lib.MathLoose.min_long.x Lib.MathLoose.min_long.code 4 (some .long) ∈ Ts) (hf : 1 ≤ R.frames) (hlo : 23 ≤ R.locals) (hd : decode cc pc = .ok (.invokestatic idx, 3)) : am_sd G (am_J Y cl E A p l e R s m args below meth c nL Q) Rt am_lmin pc := by
  intro L S h hk H locs ls hP hD hS hl
  unfold am_lmin at hk
  split at hk
  · split at hk
    · rename_i b a S _ e2
      have e2 : am_cw S ≤ 8 := Nat.le_of_ble_eq_true e2
      obtain ⟨⟨h1, h2, h3, h4⟩, hk⟩ := hk
      refine va_mmin_long X.1 X.2.1 (by rw [X.2.2.1]; exact hl.1.symm) X.2.2.2.1 (X.2.2.2.2.1 _ w1) (X.2.2.2.2.1 _ w2) (X.2.2.2.2.1 _ w3) (X.2.2.2.2.1 _ w4) hf (by rw [am_cw_ok]; omega) (Nat.zero_le _) (Nat.zero_le _) hd ?_
      have hv : (if Int64.ofInt b < Int64.ofInt a then Int64.ofInt b else Int64.ofInt a) = Int64.ofInt (if b < a then b else a) := by
        have q := nu_llt h3 h4 h1 h2
        by_cases g : b < a
        · rw [if_pos (q.mpr g), if_pos g]
        · rw [if_neg (fun z => g (q.mp z)), if_neg g]
      rw [hv]
      exact hk H locs ls hP hD hS hl
    · exact hk.elim
  · exact hk.elim
theorem am_tb_at {a : Int} {yes : Nat → Prop} : ∀ (ts : List Nat) (lo : Int) (j : Nat) (t : Nat), am_tb a yes lo ts → ts[j]? = some t → a = lo + j → yes t
  | [], lo, j, t, _, hj, _ => by simp at hj
  | t0 :: ts, lo, 0, t, h, hj, ha => by simp at hj; subst hj; exact h.1 (by omega)
  | t0 :: ts, lo, j + 1, t, h, hj, ha => am_tb_at ts (lo + 1) j t h.2 (by simpa using hj) (by omega)
theorem am_tsw_ok (X : am_C Y cl E A p s m args meth c nL cc own Ts) {dflt lo hi : Int} {offs : Array Int} {len d : Nat} {ts : List Nat} (hd : decode cc pc = .ok (.tableswitch dflt lo hi offs, len)) (hdf : (pc : Int) + dflt = (d : Int)) (hts : ts.map (fun t : Nat => (t : Int) - (pc : Int)) = offs.toList) (hlen : lo + ts.length = hi + 1) : am_sd G (am_Jc Y cl E A p l e R s m args below meth c nL Q cs) Rt (am_tsw lo hi d ts) pc := by
  intro L S h hk H locs ls hP hD hS hl
  unfold am_tsw at hk
  split at hk
  · rename_i a S
    obtain ⟨⟨h1, h2⟩, h3, h4⟩ := hk
    by_cases ho : a < lo ∨ hi < a
    · exact lv_tableOut X.1 X.2.1 hd (by rw [nu_i h1 h2]; exact ho) hdf (h3 ho H locs ls hP hD hS hl)
    · have hj : (a - lo).toNat < ts.length := by omega
      obtain ⟨t, ht⟩ : ∃ t, ts[(a - lo).toNat]? = some t := ⟨_, List.getElem?_eq_getElem hj⟩
      have hoff : offs[(a - lo).toNat]? = some ((t : Int) - pc) := by
        rw [← Array.getElem?_toList, ← hts, List.getElem?_map, ht]; rfl
      exact lv_tableIn X.1 X.2.1 hd (by rw [nu_i h1 h2]; omega) (by rw [nu_i h1 h2]; omega) (by rw [nu_i h1 h2]; exact hoff) (by omega) (am_tb_at ts lo _ t h4 ht (by omega) H locs ls hP hD hS hl)
  · exact hk.elim
end HC
/-! a method's table and its contract -/
abbrev AT : Type := List (Nat × AD)
def am_s (tbl : AT) (G : AG) (J : AJ) (Rt : AR) : AJ := fun pc L S h => match tbl.lookup pc with
  | some f => f G J Rt pc L S h
  | none => False
/-- the locals at the entry -/
def am_l0 : Nat → List AV → List (Option AV)
  | n, [] => List.replicate n none
  | n, .inr (.inl a) :: as => some (.inr (.inl a)) :: none :: am_l0 (n - 2) as
  | n, .inl a :: as => some (.inl a) :: am_l0 (n - 1) as
  | n, .inr (.inr a) :: as => some (.inr (.inr a)) :: am_l0 (n - 1) as
theorem am_l0_mem (E : AE) : ∀ (as : List AV) (n k : Nat) (q : Nat × Value), q ∈ am_a E k (am_l0 n as) → q ∈ lv_args k (as.map (am_v E))
  | [], n, k, q, h => by
    exfalso
    have : ∀ n k, am_a E k (List.replicate n none) = [] := by
      intro n
      induction n with
      | zero => intro k; rfl
      | succ n ih => intro k; simp only [List.replicate_succ, am_a]; exact ih _
    simp only [am_l0] at h
    rw [this] at h
    cases h
  | .inr (.inl a) :: as, n, k, q, h => by
    simp only [am_l0, am_a, List.mem_cons] at h
    simp only [List.map_cons, lv_args, List.mem_cons]
    rcases h with h | h
    · exact .inl h
    · right
      exact am_l0_mem E as (n - 2) (k + 1 + 1) q h
  | .inl a :: as, n, k, q, h => by
    simp only [am_l0, am_a, List.mem_cons] at h
    simp only [List.map_cons, lv_args, List.mem_cons]
    rcases h with h | h
    · exact .inl h
    · right
      exact am_l0_mem E as (n - 1) (k + 1) q h
  | .inr (.inr a) :: as, n, k, q, h => by
    simp only [am_l0, am_a, List.mem_cons] at h
    simp only [List.map_cons, lv_args, List.mem_cons]
    rcases h with h | h
    · exact .inl h
    · right
      exact am_l0_mem E as (n - 1) (k + 1) q h
def am_aw : List AV → Nat
  | [] => 0
  | .inr (.inl _) :: S => am_aw S + 2
  | .inl _ :: S => am_aw S + 1
  | .inr (.inr _) :: S => am_aw S + 1
theorem am_aw_ok (E : AE) : ∀ as : List AV, (lg_sl (as.map (am_v E))).length = am_aw as
  | [] => rfl
  | .inr (.inl a) :: S => by have := am_aw_ok E S; simp only [List.map_cons, lg_sl, List.flatMap_cons, List.length_append, am_aw] at this ⊢; rw [this]; show 2 + _ = _; omega
  | .inl a :: S => by have := am_aw_ok E S; simp only [List.map_cons, lg_sl, List.flatMap_cons, List.length_append, am_aw] at this ⊢; rw [this]; show 1 + _ = _; omega
  | .inr (.inr a) :: S => by have := am_aw_ok E S; simp only [List.map_cons, lg_sl, List.flatMap_cons, List.length_append, am_aw] at this ⊢; rw [this]; show 1 + _ = _; omega
/-- the table speaks of the code: at every place what is asked is done -/
def am_T (Y : List AL) (cl : List vw_C) (Gw : List Cond) (mi : Nat → AM) (k : Nat) (tbl : AT) : Prop :=
  ∀ (E : AE) (A : Nat → Prop) (p : Program) (l : Launch) (e : Env) (s : State) (m : MethodId) (args : Array Value) (below : List Frame) (meth : Method) (c : Code) (Rt : AR),
    am_C Y cl E A p s m args meth c (mi k).2.2.1 (mi k).2.1 (mi k).1.cls (AM.ws (mi k) Gw) → meth.sig.returnType = (mi k).2.2.2.1 →
    ∀ q ∈ tbl, am_sd (am_G Y cl E l Gw mi) (am_J Y cl E A p l e (AM.rm (mi k)) s m args below meth c (mi k).2.2.1 (MQ below (am_Q Y cl E A Rt) args s 0 0 A)) Rt q.2 q.1
theorem am_met {Y : List AL} {cl : List vw_C} {Gw : List Cond} {mi : Nat → AM} {k : Nat} {tbl : AT} (hT : am_T Y cl Gw mi k tbl) (hpl : plainName (mi k).1.cls = true) {E : AE} {l : Launch} {as : List AV} {h : AH} {Qp : AR} (haw : am_aw as ≤ (mi k).2.2.1)
    (hbody : ∀ J : AJ, (∀ pc L S h, am_s tbl (am_G Y cl E l Gw mi) J Qp pc L S h → J pc L S h) → J 0 (am_l0 (mi k).2.2.1 as) [] h) : am_G Y cl E l Gw mi k as h Qp := by
  intro sz
  refine Met.ofW (cc := (mi k).2.1) (maxL := (mi k).2.2.1) (ret := (mi k).2.2.2.1) hpl rfl ?_
  intro p e s m args below meth c s₁ B hml hv
  obtain ⟨rfl, hsz, hP, hK, hD0⟩ := hv
  subst hsz
  have hD := am_D_self (sz := s.heap.size) hD0
  have X : am_C Y cl E (am_A Y E s.heap.size) p s m (as.map (am_v E)).toArray meth c (mi k).2.2.1 (mi k).2.1 (mi k).1.cls (AM.ws (mi k) Gw) :=
    ⟨B.exec, B.bytes, hml, findClass_of_methodNamed B.named, atoms_spec (ws := AM.ws (mi k) Gw) B.pre, hK, fun q hq => .inr hq, fun k hk => .inl ⟨k, hk, rfl⟩, B.notSynchronized⟩
  have hl := lv_entry (as.map (am_v E)) (n := (mi k).2.2.1) (by rw [am_aw_ok]; exact haw)
  rw [lg_entry_eq]
  have hj := hbody (am_J Y cl E (am_A Y E s.heap.size) p l e (AM.rm (mi k)) s m (as.map (am_v E)).toArray below meth c (mi k).2.2.1 (MQ below (am_Q Y cl E (am_A Y E s.heap.size) Qp) (as.map (am_v E)).toArray s 0 0 (am_A Y E s.heap.size))) (fun pc L S h hs => by
    unfold am_s at hs
    split at hs
    · rename_i f hf
      have hmem : (pc, f) ∈ tbl := by
        have := List.lookup_eq_some_iff.mp hf
        obtain ⟨l1, l2, e1, -⟩ := this
        rw [e1]; simp
      exact hT E _ p l e s m _ below meth c Qp X B.returns (pc, f) hmem L S h hs
    · exact hs.elim)
  exact hj s.heap [] _ hP hD va_S.rf ⟨hl.1, hl.2.1, fun q hq => hl.2.2 q (am_l0_mem E as _ 0 q hq)⟩
