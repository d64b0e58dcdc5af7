/-! THE LAW: its machine -/
def R_law : String := "PointDeskLaw"
def lw_Q (_ : Array Value) (s : State) (o : Outcome) (t : State) : Prop := o = .returned (some (.int 1)) ∧ Framed s o t [] 1065 10022
def lw_Z (below : List Frame) (a : Array Value) (s : State) : State → Prop := fun t => ∃ o, t.status = .running ∧ Ended t below o ∧ lw_Q a s o t
/-- the law's own end -/
theorem lw_ret {p : Program} {l : Launch} {e : Env} {s : State} {m : MethodId} {below : List Frame} {meth : Method} {c : Code} {b : Nat} (hx : p.tables.exec = Jvm.exec) (hb : c.code = code) (hr : meth.sig.returnType = ret) (hlocks : meth.locks = false) {pc : Nat} {H : Heap} {ls : Array Slot} (hdg : decode code pc = .ok (.ireturn, 1)) : W p l e room_1 s m #[Value.ref b] below meth c H [] 1065 10022 (lw_Z below #[Value.ref b] s) (F0 m pc ls [.int 1]) := by
  intro T hT X
  obtain ⟨fs, hret, hrun, hended, hW, hframe⟩ := X.leave (v := some (.int 1)) (hlocks := hlocks) (fun h => by rw [hr] at h; cases h)
  have hmeth' : T.vm.method? m = some meth := X.method'
  refine ⟨T.setFrames fs, ?_, .returned (some (.int 1)), hrun, hended, rfl, ⟨_, rfl⟩, hW, hframe⟩
  jvm_step X.here [X.here.top, hx, hb, hdg, hmeth', hr, ret, narrow_b1]
  (try refine ⟨rfl, ?_⟩); (try refine ⟨rfl, ?_⟩)
  first | (intro acts; rw [hret _ acts rfl rfl rfl]) | rw [hret _ _ rfl rfl rfl]
  exact Steps.refl _
abbrev lj_X : Cond := .initialized "PointDeskLaw"
abbrev lj_A (s : State) : Nat → Prop := fun q => s.heap.size ≤ q
/-- the law's place: n calls have been made or may be counted as made -/
abbrev lj_J (E : AE) (l : Launch) (p : Program) (e : Env) (s : State) (m : MethodId) (below : List Frame) (meth : Method) (c : Code) (n : Nat) : AJ :=
  am_Jc am_Y am_cl E (lj_A s) p l e room_1 s m #[Value.ref (E.2.2 1000)] below meth c 8 (lw_Z below #[Value.ref (E.2.2 1000)] s) (35 + n, 1794 + 6 * n)
def lj_C (E : AE) (p : Program) (s : State) (m : MethodId) (meth : Method) (c : Code) (len : Nat) (xs : Nat → Int32) : Prop :=
  am_C am_Y am_cl E (lj_A s) p s m #[Value.ref (E.2.2 1000)] meth c 8 code "PointDeskLaw" (lj_X :: am_Gw) ∧ va_X (E.2.2 1000) len xs s s.heap ∧ E.2.2 1000 < s.heap.size ∧ meth.sig.returnType = ret ∧ tx_0 s E ∧ len ≤ 2048
/-- an int of the script -/
def lj_sld (len : Nat) (xs : Nat → Int32) : AD := fun _ J _ pc L S h => match S with
  | .inl j :: .inr (.inr k) :: S => match Nat.beq k 1000 with
    | true => (0 ≤ j ∧ j < len) ∧ J (pc + 1) L (.inl (xs j.toNat).toInt :: S) h
    | false => False
  | _ => False
def lj_len (len : Nat) : AD := fun _ J _ pc L S h => match S with
  | .inr (.inr k) :: S => match Nat.beq k 1000 with
    | true => J (pc + 1) L (.inl (len : Int) :: S) h
    | false => False
  | _ => False
def lj_and : AD := fun _ J _ pc L S h => match S with
  | .inl b :: .inl _ :: S => b = 31 ∧ ∀ v : Int, 0 ≤ v → v ≤ 31 → J (pc + 1) L (.inl v :: S) h
  | _ => False
def lj_end : AD := fun _ _ _ _ _ S _ => match S with
  | .inl v :: [] => v = 1
  | _ => False
theorem lj_31 (x : Int32) : ∃ v : Int, 0 ≤ v ∧ v ≤ 31 ∧ x &&& Int32.ofInt 31 = Int32.ofInt v := by
  refine ⟨(x &&& Int32.ofInt 31).toInt, ?_, ?_, (Int32.ofInt_toInt _).symm⟩
  · have h : (x &&& Int32.ofInt 31).toBitVec = x.toBitVec &&& 31#32 := by simp
    show 0 ≤ (x &&& Int32.ofInt 31).toBitVec.toInt
    rw [h, BitVec.toInt_eq_toNat_of_lt]
    · omega
    · rw [BitVec.toNat_and]
      have := Nat.and_le_right (n := x.toBitVec.toNat) (m := (31#32).toNat)
      have e : (31#32).toNat = 31 := rfl
      omega
  · have h : (x &&& Int32.ofInt 31).toBitVec = x.toBitVec &&& 31#32 := by simp
    show (x &&& Int32.ofInt 31).toBitVec.toInt ≤ 31
    have h2 : (x.toBitVec &&& 31#32).toNat ≤ 31 := by
      rw [BitVec.toNat_and]
      exact Nat.and_le_right
    rw [h, BitVec.toInt_eq_toNat_of_lt]
    · omega
    · omega
section LJ
variable {E : AE} {l : Launch} {p : Program} {e : Env} {s : State} {m : MethodId} {below : List Frame} {meth : Method} {c : Code} {n len : Nat} {xs : Nat → Int32} {G : AG} {Rt : AR} {pc : Nat}
theorem lj_sld_ok (C : lj_C E p s m meth c len xs) (hd : decode code pc = .ok (.iaload, 1)) : am_sd G (lj_J E l p e s m below meth c n) Rt (lj_sld len xs) pc := by
  obtain ⟨X, hX, hb, hr, h0, hL⟩ := C
  intro L S h hk H locs ls hP hD hS hl
  unfold lj_sld at hk
  split at hk
  · rename_i j k S
    split at hk
    · rename_i hk0
      have hk0 : k = 1000 := Nat.eq_of_beq_eq_true hk0
      subst hk0
      obtain ⟨⟨h1, h2⟩, hk⟩ := hk
      have hk := hk H locs ls hP hD hS hl
      refine va_sld X.1 X.2.1 hX hb (fun z => absurd hb (Nat.not_lt.mpr z)) hS (i := Int32.ofInt j) (nu_in h1 h2 (by omega)) hd ?_
      rw [nu_nat h1 (by omega)]
      have hv : am_v E (.inl (xs j.toNat).toInt) = .int (xs j.toNat) := by
        show Value.int (Int32.ofInt (xs j.toNat).toInt) = _
        rw [Int32.ofInt_toInt]
      rw [List.map_cons, hv] at hk
      exact hk
    · exact hk.elim
  · exact hk.elim
theorem lj_len_ok (C : lj_C E p s m meth c len xs) (hd : decode code pc = .ok (.arraylength, 1)) : am_sd G (lj_J E l p e s m below meth c n) Rt (lj_len len) pc := by
  obtain ⟨X, hX, hb, hr, h0, hL⟩ := C
  intro L S h hk H locs ls hP hD hS hl
  unfold lj_len at hk
  split at hk
  · rename_i k S
    split at hk
    · rename_i hk0
      have hk0 : k = 1000 := Nat.eq_of_beq_eq_true hk0
      subst hk0
      have hk := hk H locs ls hP hD hS hl
      exact va_slen X.1 X.2.1 hX hb (fun z => absurd hb (Nat.not_lt.mpr z)) hS hd hk
    · exact hk.elim
  · exact hk.elim
theorem lj_and_ok (C : lj_C E p s m meth c len xs) (hd : decode code pc = .ok (.iand, 1)) : am_sd G (lj_J E l p e s m below meth c n) Rt lj_and pc := by
  obtain ⟨X, hX, hb, hr, h0, hL⟩ := C
  intro L S h hk H locs ls hP hD hS hl
  unfold lj_and at hk
  split at hk
  · rename_i b a S
    obtain ⟨rfl, hk⟩ := hk
    obtain ⟨v, v1, v2, hv⟩ := lj_31 (Int32.ofInt a)
    have hk := hk v v1 v2 H locs ls hP hD hS hl
    refine lv_iand X.1 X.2.1 hd ?_
    rw [hv]
    exact hk
  · exact hk.elim
theorem lj_end_ok (C : lj_C E p s m meth c len xs) (hn : n ≤ 513) (hd : decode code pc = .ok (.ireturn, 1)) : am_sd G (lj_J E l p e s m below meth c n) Rt lj_end pc := by
  obtain ⟨X, hX, hb, hr, h0, hL⟩ := C
  intro L S h hk H locs ls hP hD hS hl
  unfold lj_end at hk
  split at hk
  · subst hk
    exact va_forget hS.2.2 (W.widen (show 35 + n ≤ 1065 by omega) (show 1794 + 6 * n ≤ 10022 by omega) (lw_ret X.1 X.2.1 hr X.2.2.2.2.2.2.2.2 hd))
  · exact hk.elim
/-- fewer locals known -/
theorem lj_weak {L L' : List (Option AV)} {S : List AV} {h : AH} (hL : ∀ (j : Nat) (w : AV), L'[j]? = some (some w) → L[j]? = some (some w)) (hj : lj_J E l p e s m below meth c n pc L' S h) : lj_J E l p e s m below meth c n pc L S h := by
  intro H locs ls hP hD hS hl
  refine hj H locs ls hP hD hS ⟨hl.1, hl.2.1, fun q hq => hl.2.2 q ?_⟩
  obtain ⟨j, x⟩ := q
  obtain ⟨w, h1, h2, h3⟩ := (am_a_mem E 0 L' j x).mp hq
  exact (am_a_mem E 0 L j x).mpr ⟨w, by simpa using hL j w (by simpa using h1), h2, h3⟩
/-- a call more may be counted -/
theorem lj_wide {L : List (Option AV)} {S : List AV} {h : AH} (hj : lj_J E l p e s m below meth c (n + 1) pc L S h) : lj_J E l p e s m below meth c n pc L S h := by
  intro H locs ls hP hD hS hl
  exact W.widen (show 35 + n ≤ 35 + (n + 1) by omega) (show 1794 + 6 * n ≤ 1794 + 6 * (n + 1) by omega) (hj H locs ls hP hD hS hl)
/-- a helper's call -/
theorem lj_help (C : lj_C E p s m meth c len xs) (hn : n ≤ 512) {q : HM} {idx k : Nat} (hq : q.1.cls = "PointDeskLaw") (w1 : Cond.methodLink "PointDeskLaw" idx q.1 ∈ am_Gw) (w2 : Cond.static q.1 ∈ am_Gw) (w3 : Cond.codeWith q.1 q.2.1 q.2.2.1 (some .int) q.2.2.2 ∈ am_Gw) (hk : (parseMethodDescriptor q.1.desc).map (fun d => d.parameters.length) = some k) (hR : 8 + (q.2.2.1 + 11) + 170 ≤ 392) (hd : decode code pc = .ok (.invokestatic idx, 3))
    {L : List (Option AV)} {as S' : List AV} {h : AH} (hcw : am_cw S' ≤ 8) (hlen : as.length = k) (hM : hp_G E l s q as h (fun r h' => lj_J E l p e s m below meth c (n + 1) (pc + 3) L (am_on r S') h')) : lj_J E l p e s m below meth c n pc L (as.reverse ++ S') h := by
  obtain ⟨X, hX, hb, hr, h0, hL⟩ := C
  intro H locs ls hP hD hS hl T hT XS
  subst hT
  have hwd : ∀ w ∈ am_Gw, ∀ (a : Array Value) (U : State), s.WarmedH U.vm → w.before a U = true := fun w hw a U hW => word_at hW (am_Ggood hw) (X.2.2.2.2.1 w (List.mem_cons_of_mem _ hw))
  have hini : Cond.initialized "PointDeskLaw" ∈ am_Gw := am_Gin 50 (by decide +kernel) (by decide +kernel)
  have hK : Back l room_1 p e below s #[Value.ref (E.2.2 1000)] q.1 3 8 (PreOf room_1 1 6 (tm_Pc s E T.heap.size as h)) (PostOf (am_Q am_Y am_cl E (am_A am_Y E T.heap.size) (fun r h' => lj_J E l p e s m below meth c (n + 1) (pc + 3) L (am_on r S') h')) 1 6 (am_A am_Y E T.heap.size)) :=
    va_backW (hh := q.2.2.2) (bytes := q.2.1) (maxL := q.2.2.1) (ret := some .int) (hM T.heap.size) tm_Pc_blind rfl rfl (by decide) hR (fun w hw a U hW => by
      rcases List.mem_cons.mp hw with rfl | hw
      · exact hwd _ w3 a U hW
      · exact hwd _ hw a U hW) List.mem_cons_self (fun a' U hW => by rw [hq]; exact hwd _ hini a' U hW)
  have ok : ∀ w ∈ am_Gw, w.before #[Value.ref (E.2.2 1000)] s = true := fun w hw => X.2.2.2.2.1 w (List.mem_cons_of_mem _ hw)
  obtain ⟨mk, methM, cM, hnamed, hmethM, -, -, -, -, -, -, hsigM⟩ := Cond.codeWith_spec (ok _ w3)
  have hstatic : methM.isStatic = true := Cond.static_spec hnamed hmethM (ok _ w2)
  obtain ⟨kP, hkP, -⟩ := className_of_methodNamed hnamed
  have hinitP : kP.init = .initialized := Cond.initialized_spec (findClass_of_methodNamed hnamed) hkP (by rw [hq]; exact ok _ hini)
  have hy : q.1.cls ≠ "java/lang/invoke/MethodHandle" ∧ q.1.cls ≠ "java/lang/invoke/VarHandle" := by rw [hq]; decide
  obtain ⟨vm₁, X₁, hstep₁⟩ := XS.invokestatic X.1 X.2.2.2.1 (ok _ w1) hnamed hmethM hstatic hkP hinitP hy (g := F0 m pc ls ((as.reverse ++ S').map (am_v E))) rfl (argsL := as.map (am_v E)) (rest := S'.map (am_v E)) (by
    rw [hsigM] at hk
    rw [List.length_map, hlen]
    exact (Option.some.inj hk).symm) (by simp) (by rw [X.2.1]; exact hd)
  obtain ⟨v, ⟨U', l2, c2, s2⟩, X', ⟨g', mk', t, L1, e1, e2, ⟨⟨r, h', hv, hp, hP', hK', hD'⟩, hz, hf⟩, q1, hL1, q2, q3⟩, hsteps⟩ := hK m meth c ⟨T.setVm vm₁, locs, 35 + n, 1794 + 6 * n⟩ (F0 m pc ls (S'.map (am_v E))) (.invokestatic idx) mk (as.map (am_v E)).toArray X₁ rfl (by rw [X.2.2.1]; exact hl.1) (by rw [X.2.1]; exact hd) (by show 2 * 0 + _ ≤ 8; rw [am_cw_ok]; omega) (X₁.named hnamed)
    ⟨show 35 + n + 1 ≤ 1065 by omega, show 1794 + 6 * n + 6 ≤ 10022 by omega, ⟨rfl, rfl, hP, va_K.moved X₁.warmed.alike X.2.2.2.2.2.1, hD.weaken (fun _ _ _ _ => trivial)⟩, ⟨X₁.warmed, hS.1, fun z hz => hS.2.1 z hz (fun y => absurd hz (Nat.not_lt.mpr y))⟩⟩
  dsimp only [Pt.U, Pt.locs, Pt.cells, Pt.slots] at X' e1 e2 q1 q2 q3 hsteps
  subst q1
  subst q2
  subst q3
  cases hv
  have sub : ∀ z, am_A am_Y E T.heap.size z → lj_A s z := by
    intro z hz
    rcases hz with ⟨k, hk, rfl⟩ | hz
    · exact X.2.2.2.2.2.2.2.1 k hk
    · exact X.2.2.2.2.2.2.1 z (Nat.le_trans hS.1 hz)
  have hz : T.heap.size ≤ t.heap.size := hz
  have hf : ∀ z : Nat, z < T.heap.size → ¬ am_A am_Y E T.heap.size z → t.heap[z]? = T.heap[z]? := hf
  have hS' : va_S (lj_A s) s.heap U'.heap (locs ++ L1) := by
    refine ⟨Nat.le_trans hS.1 (by rw [e1]; exact hz), fun z h1 h2 => ?_, fun z hz => ?_⟩
    · rw [e1, hf z (Nat.lt_of_lt_of_le h1 hS.1) (fun y => h2 (sub z y))]
      exact hS.2.1 z h1 h2
    · rcases List.mem_append.mp hz with h | h
      · exact hS.2.2 z h
      · exact sub _ (hL1 z h)
  have hj := hp U'.heap (locs ++ L1) ls (by rw [e1]; exact hP') (hD'.weaken (fun _ z _ h => sub z.1 h)) hS' hl
  have hst : (am_on r S').map (am_v E) = (r.map (am_v E)).toList ++ S'.map (am_v E) := by cases r <;> rfl
  rw [hst] at hj
  obtain ⟨t2, a1, b1⟩ := hj U' rfl (by
    show Stand p l e room_1 s m _ below meth c U' (locs ++ L1) (35 + (n + 1)) (1794 + 6 * (n + 1))
    rw [show 35 + (n + 1) = 35 + n + 1 by omega, show 1794 + 6 * (n + 1) = 1794 + 6 * n + 6 by omega]
    exact X')
  exact ⟨t2, hstep₁ _ fun acts => by rw [doInvoke_state]; exact hsteps.trans a1, b1⟩
end LJ
