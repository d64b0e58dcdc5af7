/-! what an instruction asks (handlers), and that the machine does it -/
def am_Jc (Y : List AL) (cl : List vw_C) (E : AE) (A : Nat → Prop) (p : Program) (l : Launch) (e : Env) (R : Room) (s : State) (m : MethodId) (args : Array Value) (below : List Frame) (meth : Method) (c : Code) (nL : Nat) (Q : State → Prop) (cs : Nat × Nat) : AJ :=
  fun pc L S h => ∀ (H : Heap) (locs : List Loc) (ls : Array Slot), va_P E.1 cl (am_w Y E h) H → va_D A (am_w Y E h) → va_S A s.heap H locs → lv_has ls nL (am_a E 0 L) → W p l e R s m args below meth c H locs cs.1 cs.2 Q (F0 m pc ls (S.map (am_v E)))
abbrev am_J (Y : List AL) (cl : List vw_C) (E : AE) (A : Nat → Prop) (p : Program) (l : Launch) (e : Env) (R : Room) (s : State) (m : MethodId) (args : Array Value) (below : List Frame) (meth : Method) (c : Code) (nL : Nat) (Q : State → Prop) : AJ := am_Jc Y cl E A p l e R s m args below meth c nL Q (0, 0)
def am_tys (E : AE) : List (ClassId × FieldType) := [(E.2.1.1, .int), (E.2.1.2.1, .long), (E.2.1.2.2, .boolean)]
/-- what a walk stands on -/
def am_C (Y : List AL) (cl : List vw_C) (E : AE) (A : Nat → Prop) (p : Program) (s : State) (m : MethodId) (args : Array Value) (meth : Method) (c : Code) (nL : Nat) (cc : ByteArray) (own : String) (Ts : List Cond) : Prop :=
  p.tables.exec = Jvm.exec ∧ c.code = cc ∧ c.maxLocals = nL ∧ s.vm.findClass own = some m.cls ∧ (∀ w ∈ Ts, w.before args s = true) ∧ va_K E.1 cl (am_tys E) s ∧ (∀ q, s.heap.size ≤ q → A q) ∧ (∀ k, k < Y.length → A (E.2.2 k)) ∧ meth.locks = false
def am_sd (G : AG) (J : AJ) (R : AR) (f : AD) (pc : Nat) : Prop := ∀ L S h, f G J R pc L S h → J pc L S h
def am_ic (a : Int) (n : Nat) : AD := fun _ J _ pc L S h => J (pc + n) L (.inl a :: S) h
def am_lc (a : Int) (n : Nat) : AD := fun _ J _ pc L S h => J (pc + n) L (.inr (.inl a) :: S) h
def am_ld (i n : Nat) : AD := fun _ J _ pc L S h => match L[i]? with
  | some (some v) => J (pc + n) L (v :: S) h
  | _ => False
def am_ild (i n : Nat) : AD := fun _ J _ pc L S h => match L[i]? with
  | some (some (.inl a)) => J (pc + n) L (.inl a :: S) h
  | _ => False
def am_lld (i n : Nat) : AD := fun _ J _ pc L S h => match L[i]? with
  | some (some (.inr (.inl a))) => J (pc + n) L (.inr (.inl a) :: S) h
  | _ => False
def am_ald (i n : Nat) : AD := fun _ J _ pc L S h => match L[i]? with
  | some (some (.inr (.inr a))) => J (pc + n) L (.inr (.inr a) :: S) h
  | _ => False
def am_ist (i n : Nat) : AD := fun _ J _ pc L S h => match S with
  | .inl a :: S => am_st (.inl a) i L (fun L' => J (pc + n) L' S h)
  | _ => False
def am_ast (i n : Nat) : AD := fun _ J _ pc L S h => match S with
  | .inr (.inr a) :: S => am_st (.inr (.inr a)) i L (fun L' => J (pc + n) L' S h)
  | _ => False
def am_lst (i n : Nat) : AD := fun _ J _ pc L S h => match S with
  | .inr (.inl a) :: S => am_st2 (.inr (.inl a)) i L (fun L' => J (pc + n) L' S h)
  | _ => False
def am_inc (i : Nat) (k : Int) : AD := fun _ J _ pc L S h => match L[i]? with
  | some (some (.inl a)) => am_st (.inl (a + k)) i L (fun L' => J (pc + 3) L' S h)
  | _ => False
def am_iadd : AD := fun _ J _ pc L S h => match S with
  | .inl b :: .inl a :: S => J (pc + 1) L (.inl (a + b) :: S) h
  | _ => False
def am_isub : AD := fun _ J _ pc L S h => match S with
  | .inl b :: .inl a :: S => J (pc + 1) L (.inl (a - b) :: S) h
  | _ => False
def am_imul : AD := fun _ J _ pc L S h => match S with
  | .inl b :: .inl a :: S => J (pc + 1) L (.inl (a * b) :: S) h
  | _ => False
def am_ladd : AD := fun _ J _ pc L S h => match S with
  | .inr (.inl b) :: .inr (.inl a) :: S => J (pc + 1) L (.inr (.inl (a + b)) :: S) h
  | _ => False
def am_lsub : AD := fun _ J _ pc L S h => match S with
  | .inr (.inl b) :: .inr (.inl a) :: S => J (pc + 1) L (.inr (.inl (a - b)) :: S) h
  | _ => False
def am_lmul : AD := fun _ J _ pc L S h => match S with
  | .inr (.inl b) :: .inr (.inl a) :: S => J (pc + 1) L (.inr (.inl (a * b)) :: S) h
  | _ => False
def am_idiv : AD := fun _ J _ pc L S h => match S with
  | .inl b :: .inl a :: S => (0 ≤ a ∧ a < 2147483648 ∧ 0 < b ∧ b < 2147483648) ∧ J (pc + 1) L (.inl (a / b) :: S) h
  | _ => False
def am_irem : AD := fun _ J _ pc L S h => match S with
  | .inl b :: .inl a :: S => (0 ≤ a ∧ a < 2147483648 ∧ 0 < b ∧ b < 2147483648) ∧ J (pc + 1) L (.inl (a % b) :: S) h
  | _ => False
def am_i2l : AD := fun _ J _ pc L S h => match S with
  | .inl a :: S => (-2147483648 ≤ a ∧ a < 2147483648) ∧ J (pc + 1) L (.inr (.inl a) :: S) h
  | _ => False
def am_dup : AD := fun _ J _ pc L S h => match S with
  | .inl a :: S => J (pc + 1) L (.inl a :: .inl a :: S) h
  | .inr (.inr a) :: S => J (pc + 1) L (.inr (.inr a) :: .inr (.inr a) :: S) h
  | _ => False
def am_goto (t : Nat) : AD := fun _ J _ _ L S h => J t L S h
/-- a branch: which of two numbers -/
def am_br (k : Nat) (a b : Int) (yes no : Prop) : Prop := match k with
  | 0 => (a = b → yes) ∧ (a ≠ b → no)
  | 1 => (a ≠ b → yes) ∧ (a = b → no)
  | 2 => (a < b → yes) ∧ (b ≤ a → no)
  | 3 => (b ≤ a → yes) ∧ (a < b → no)
  | 4 => (b < a → yes) ∧ (a ≤ b → no)
  | _ => (a ≤ b → yes) ∧ (b < a → no)
def am_if (k t : Nat) : AD := fun _ J _ pc L S h => match S with
  | .inl a :: S => (-2147483648 ≤ a ∧ a < 2147483648) ∧ am_br k a 0 (J t L S h) (J (pc + 3) L S h)
  | _ => False
def am_icmp (k t : Nat) : AD := fun _ J _ pc L S h => match S with
  | .inl b :: .inl a :: S => (-2147483648 ≤ a ∧ a < 2147483648 ∧ -2147483648 ≤ b ∧ b < 2147483648) ∧ am_br k a b (J t L S h) (J (pc + 3) L S h)
  | _ => False
/-- lcmp and the branch behind it -/
def am_lcmp (k t : Nat) : AD := fun _ J _ pc L S h => match S with
  | .inr (.inl b) :: .inr (.inl a) :: S => (-9223372036854775808 ≤ a ∧ a < 9223372036854775808 ∧ -9223372036854775808 ≤ b ∧ b < 9223372036854775808) ∧ am_br k a b (J t L S h) (J (pc + 4) L S h)
  | _ => False
def am_get (Y : List AL) (ci k : Nat) : AD := fun _ J _ pc L S h => match S with
  | .inr (.inr c) :: S => match Y[c]? with
    | some (.inl o) => match o.1 == ci, o.2[k]? with
      | true, some none => J (pc + 3) L (.inl (h c k) :: S) h
      | true, some (some r) => J (pc + 3) L (.inr (.inr r) :: S) h
      | _, _ => False
    | _ => False
  | _ => False
def am_put (Y : List AL) (ci k : Nat) : AD := fun _ J _ pc L S h => match S with
  | .inl v :: .inr (.inr c) :: S => match Y[c]? with
    | some (.inl o) => match o.1 == ci, o.2[k]? with
      | true, some none => J (pc + 3) L S (am_up h c k v)
      | _, _ => False
    | _ => False
  | _ => False
def am_putz (Y : List AL) (ci k : Nat) : AD := fun _ J _ pc L S h => match S with
  | .inl v :: .inr (.inr c) :: S => match Y[c]? with
    | some (.inl o) => match o.1 == ci, o.2[k]? with
      | true, some none => (v = 0 ∨ v = 1) ∧ J (pc + 3) L S (am_up h c k v)
      | _, _ => False
    | _ => False
  | _ => False
def am_iald (Y : List AL) : AD := fun _ J _ pc L S h => match S with
  | .inl i :: .inr (.inr c) :: S => match Y[c]? with
    | some (.inr (0, n)) => (0 ≤ i ∧ i < (n : Int)) ∧ J (pc + 1) L (.inl (h c i.toNat) :: S) h
    | _ => False
  | _ => False
def am_zald (Y : List AL) : AD := fun _ J _ pc L S h => match S with
  | .inl i :: .inr (.inr c) :: S => match Y[c]? with
    | some (.inr (2, n)) => (0 ≤ i ∧ i < (n : Int)) ∧ J (pc + 1) L (.inl (h c i.toNat) :: S) h
    | _ => False
  | _ => False
def am_lald (Y : List AL) : AD := fun _ J _ pc L S h => match S with
  | .inl i :: .inr (.inr c) :: S => match Y[c]? with
    | some (.inr (1, n)) => (0 ≤ i ∧ i < (n : Int)) ∧ J (pc + 1) L (.inr (.inl (h c i.toNat)) :: S) h
    | _ => False
  | _ => False
def am_iast (Y : List AL) : AD := fun _ J _ pc L S h => match S with
  | .inl v :: .inl i :: .inr (.inr c) :: S => match Y[c]? with
    | some (.inr (0, n)) => (0 ≤ i ∧ i < (n : Int)) ∧ J (pc + 1) L S (am_up h c i.toNat v)
    | _ => False
  | _ => False
def am_zast (Y : List AL) : AD := fun _ J _ pc L S h => match S with
  | .inl v :: .inl i :: .inr (.inr c) :: S => match Y[c]? with
    | some (.inr (2, n)) => (0 ≤ i ∧ i < (n : Int) ∧ (v = 0 ∨ v = 1)) ∧ J (pc + 1) L S (am_up h c i.toNat v)
    | _ => False
  | _ => False
def am_last (Y : List AL) : AD := fun _ J _ pc L S h => match S with
  | .inr (.inl v) :: .inl i :: .inr (.inr c) :: S => match Y[c]? with
    | some (.inr (1, n)) => (0 ≤ i ∧ i < (n : Int)) ∧ J (pc + 1) L S (am_up h c i.toNat v)
    | _ => False
  | _ => False
def am_ret : AD := fun _ _ R _ _ S h => match S with
  | [.inl v] => R (some (.inl v)) h
  | _ => False
def am_zret : AD := fun _ _ R _ _ S h => match S with
  | [.inl v] => (v = 0 ∨ v = 1) ∧ R (some (.inl v)) h
  | _ => False
def am_lret : AD := fun _ _ R _ _ S h => match S with
  | [.inr (.inl v)] => R (some (.inr (.inl v))) h
  | _ => False
def am_vret : AD := fun _ _ R _ _ S h => match S with
  | [] => R none h
  | _ => False
section HA
variable {Y : List AL} {cl : List vw_C} {E : AE} {A : Nat → Prop} {p : Program} {l : Launch} {e : Env} {R : Room} {s : State} {m : MethodId} {args : Array Value} {below : List Frame} {meth : Method} {c : Code} {nL : Nat} {Q : State → Prop} {cc : ByteArray} {own : String} {Ts : List Cond} {G : AG} {Rt : AR} {pc : Nat} {cs : Nat × Nat}
theorem am_iconst_ok (X : am_C Y cl E A p s m args meth c nL cc own Ts) {n : Int} (hd : decode cc pc = .ok (.iconst n, 1)) : am_sd G (am_Jc Y cl E A p l e R s m args below meth c nL Q cs) Rt (am_ic n 1) pc := by
  intro L S h hk H locs ls hP hD hS hl
  exact lv_iconst X.1 X.2.1 hd rfl (hk H locs ls hP hD hS hl)
theorem am_bipush_ok (X : am_C Y cl E A p s m args meth c nL cc own Ts) {n : Int} (hd : decode cc pc = .ok (.bipush n, 2)) (hn : (Int8.ofInt n).toInt32 = Int32.ofInt n) : am_sd G (am_Jc Y cl E A p l e R s m args below meth c nL Q cs) Rt (am_ic n 2) pc := by
  intro L S h hk H locs ls hP hD hS hl
  exact lv_bipush X.1 X.2.1 hd hn (hk H locs ls hP hD hS hl)
theorem am_sipush_ok (X : am_C Y cl E A p s m args meth c nL cc own Ts) {n : Int} (hd : decode cc pc = .ok (.sipush n, 3)) (hn : (Int16.ofInt n).toInt32 = Int32.ofInt n) : am_sd G (am_Jc Y cl E A p l e R s m args below meth c nL Q cs) Rt (am_ic n 3) pc := by
  intro L S h hk H locs ls hP hD hS hl
  exact lv_sipush X.1 X.2.1 hd hn (hk H locs ls hP hD hS hl)
theorem am_ldc_ok (X : am_C Y cl E A p s m args meth c nL cc own Ts) {a : Int} {i : Nat} (hd : decode cc pc = .ok (.ldc i, 2)) (hw : Cond.constant own i (Int32.ofInt a) ∈ Ts) : am_sd G (am_Jc Y cl E A p l e R s m args below meth c nL Q cs) Rt (am_ic a 2) pc := by
  intro L S h hk H locs ls hP hD hS hl
  exact lv_ldc X.1 X.2.1 X.2.2.2.1 (X.2.2.2.2.1 _ hw) hd (hk H locs ls hP hD hS hl)
theorem am_ldc2_ok (X : am_C Y cl E A p s m args meth c nL cc own Ts) {a : Int} {i : Nat} (hd : decode cc pc = .ok (.ldc2_w i, 3)) (hw : Cond.constantLong own i (Int64.ofInt a) ∈ Ts) : am_sd G (am_Jc Y cl E A p l e R s m args below meth c nL Q cs) Rt (am_lc a 3) pc := by
  intro L S h hk H locs ls hP hD hS hl
  exact lv_ldc2 X.1 X.2.1 X.2.2.2.1 (X.2.2.2.2.1 _ hw) hd (hk H locs ls hP hD hS hl)
theorem am_lconst_ok (X : am_C Y cl E A p s m args meth c nL cc own Ts) {n : Fin 2} (hd : decode cc pc = .ok (.lconst n, 1)) : am_sd G (am_Jc Y cl E A p l e R s m args below meth c nL Q cs) Rt (am_lc (n.val : Int) 1) pc := by
  intro L S h hk H locs ls hP hD hS hl
  refine lv_lconst (v := Int64.ofInt (n.val : Int)) X.1 X.2.1 hd ?_ (hk H locs ls hP hD hS hl)
  match n with
  | 0 => rfl
  | 1 => rfl
theorem am_iload_n_ok (X : am_C Y cl E A p s m args meth c nL cc own Ts) {k : Fin 4} (hd : decode cc pc = .ok (.iload_n k, 1)) : am_sd G (am_Jc Y cl E A p l e R s m args below meth c nL Q cs) Rt (am_ild k.val 1) pc := by
  intro L S h hk H locs ls hP hD hS hl
  unfold am_ild at hk
  split at hk
  · rename_i a ha
    exact lv_iload_n X.1 X.2.1 hd rfl (am_l_at hl ha) (hk H locs ls hP hD hS hl)
  · exact hk.elim
theorem am_iload_ok (X : am_C Y cl E A p s m args meth c nL cc own Ts) {k : Nat} (hd : decode cc pc = .ok (.iload k, 2)) : am_sd G (am_Jc Y cl E A p l e R s m args below meth c nL Q cs) Rt (am_ild k 2) pc := by
  intro L S h hk H locs ls hP hD hS hl
  unfold am_ild at hk
  split at hk
  · rename_i a ha
    exact lv_iload X.1 X.2.1 hd (am_l_at hl ha) (hk H locs ls hP hD hS hl)
  · exact hk.elim
theorem am_lload_n_ok (X : am_C Y cl E A p s m args meth c nL cc own Ts) {k : Fin 4} (hd : decode cc pc = .ok (.lload_n k, 1)) : am_sd G (am_Jc Y cl E A p l e R s m args below meth c nL Q cs) Rt (am_lld k.val 1) pc := by
  intro L S h hk H locs ls hP hD hS hl
  unfold am_lld at hk
  split at hk
  · rename_i a ha
    exact lv_lload_n X.1 X.2.1 hd rfl (am_l_at hl ha) (hk H locs ls hP hD hS hl)
  · exact hk.elim
theorem am_lload_ok (X : am_C Y cl E A p s m args meth c nL cc own Ts) {k : Nat} (hd : decode cc pc = .ok (.lload k, 2)) : am_sd G (am_Jc Y cl E A p l e R s m args below meth c nL Q cs) Rt (am_lld k 2) pc := by
  intro L S h hk H locs ls hP hD hS hl
  unfold am_lld at hk
  split at hk
  · rename_i a ha
    exact lv_lload X.1 X.2.1 hd (am_l_at hl ha) (hk H locs ls hP hD hS hl)
  · exact hk.elim
theorem am_aload_n_ok (X : am_C Y cl E A p s m args meth c nL cc own Ts) {k : Fin 4} (hd : decode cc pc = .ok (.aload_n k, 1)) : am_sd G (am_Jc Y cl E A p l e R s m args below meth c nL Q cs) Rt (am_ald k.val 1) pc := by
  intro L S h hk H locs ls hP hD hS hl
  unfold am_ald at hk
  split at hk
  · rename_i a ha
    exact lv_aload_n X.1 X.2.1 hd rfl (am_l_at hl ha) (hk H locs ls hP hD hS hl)
  · exact hk.elim
theorem am_aload_ok (X : am_C Y cl E A p s m args meth c nL cc own Ts) {k : Nat} (hd : decode cc pc = .ok (.aload k, 2)) : am_sd G (am_Jc Y cl E A p l e R s m args below meth c nL Q cs) Rt (am_ald k 2) pc := by
  intro L S h hk H locs ls hP hD hS hl
  unfold am_ald at hk
  split at hk
  · rename_i a ha
    exact lv_aload X.1 X.2.1 hd (am_l_at hl ha) (hk H locs ls hP hD hS hl)
  · exact hk.elim
theorem am_istore_n_ok (X : am_C Y cl E A p s m args meth c nL cc own Ts) {k : Fin 4} (hn : k.val < nL) (hd : decode cc pc = .ok (.istore_n k, 1)) : am_sd G (am_Jc Y cl E A p l e R s m args below meth c nL Q cs) Rt (am_ist k.val 1) pc := by
  intro L S h hk H locs ls hP hD hS hl
  unfold am_ist at hk
  split at hk
  · obtain ⟨L', h1, -, -, h4⟩ := am_st_ok _ _ _ _ hk
    exact lv_istore_n X.1 X.2.1 hd rfl hl hn rfl (fun ls' hl' => h1 H locs ls' hP hD hS (am_st_has (v := .inl _) hl' h4))
  · exact hk.elim
theorem am_istore_ok (X : am_C Y cl E A p s m args meth c nL cc own Ts) {k : Nat} (hn : k < nL) (hd : decode cc pc = .ok (.istore k, 2)) : am_sd G (am_Jc Y cl E A p l e R s m args below meth c nL Q cs) Rt (am_ist k 2) pc := by
  intro L S h hk H locs ls hP hD hS hl
  unfold am_ist at hk
  split at hk
  · obtain ⟨L', h1, -, -, h4⟩ := am_st_ok _ _ _ _ hk
    exact lv_istore X.1 X.2.1 hd hl hn rfl (fun ls' hl' => h1 H locs ls' hP hD hS (am_st_has (v := .inl _) hl' h4))
  · exact hk.elim
theorem am_astore_n_ok (X : am_C Y cl E A p s m args meth c nL cc own Ts) {k : Fin 4} (hn : k.val < nL) (hd : decode cc pc = .ok (.astore_n k, 1)) : am_sd G (am_Jc Y cl E A p l e R s m args below meth c nL Q cs) Rt (am_ast k.val 1) pc := by
  intro L S h hk H locs ls hP hD hS hl
  unfold am_ast at hk
  split at hk
  · obtain ⟨L', h1, -, -, h4⟩ := am_st_ok _ _ _ _ hk
    exact lv_astore_n X.1 X.2.1 hd rfl hl hn rfl (fun ls' hl' => h1 H locs ls' hP hD hS (am_st_has (v := .inr (.inr _)) hl' h4))
  · exact hk.elim
theorem am_astore_ok (X : am_C Y cl E A p s m args meth c nL cc own Ts) {k : Nat} (hn : k < nL) (hd : decode cc pc = .ok (.astore k, 2)) : am_sd G (am_Jc Y cl E A p l e R s m args below meth c nL Q cs) Rt (am_ast k 2) pc := by
  intro L S h hk H locs ls hP hD hS hl
  unfold am_ast at hk
  split at hk
  · obtain ⟨L', h1, -, -, h4⟩ := am_st_ok _ _ _ _ hk
    exact lv_astore X.1 X.2.1 hd hl hn rfl (fun ls' hl' => h1 H locs ls' hP hD hS (am_st_has (v := .inr (.inr _)) hl' h4))
  · exact hk.elim
theorem am_lstore_n_ok (X : am_C Y cl E A p s m args meth c nL cc own Ts) {k : Fin 4} (hn : k.val + 1 < nL) (hd : decode cc pc = .ok (.lstore_n k, 1)) : am_sd G (am_Jc Y cl E A p l e R s m args below meth c nL Q cs) Rt (am_lst k.val 1) pc := by
  intro L S h hk H locs ls hP hD hS hl
  unfold am_lst at hk
  split at hk
  · obtain ⟨L', h1, -, -, h4⟩ := am_st2_ok _ _ _ _ hk
    exact lv_lstore_n X.1 X.2.1 hd rfl hl hn rfl (fun ls' hl' => h1 H locs ls' hP hD hS (am_st2_has (v := .inr (.inl _)) hl' h4))
  · exact hk.elim
theorem am_lstore_ok (X : am_C Y cl E A p s m args meth c nL cc own Ts) {k : Nat} (hn : k + 1 < nL) (hd : decode cc pc = .ok (.lstore k, 2)) : am_sd G (am_Jc Y cl E A p l e R s m args below meth c nL Q cs) Rt (am_lst k 2) pc := by
  intro L S h hk H locs ls hP hD hS hl
  unfold am_lst at hk
  split at hk
  · obtain ⟨L', h1, -, -, h4⟩ := am_st2_ok _ _ _ _ hk
    exact lv_lstore X.1 X.2.1 hd hl hn rfl (fun ls' hl' => h1 H locs ls' hP hD hS (am_st2_has (v := .inr (.inl _)) hl' h4))
  · exact hk.elim
theorem am_iinc_ok (X : am_C Y cl E A p s m args meth c nL cc own Ts) {i : Nat} {n : Int} (hn : i < nL) (hd : decode cc pc = .ok (.iinc i n, 3)) : am_sd G (am_Jc Y cl E A p l e R s m args below meth c nL Q cs) Rt (am_inc i n) pc := by
  intro L S h hk H locs ls hP hD hS hl
  unfold am_inc at hk
  split at hk
  · rename_i a ha
    obtain ⟨L', h1, -, -, h4⟩ := am_st_ok _ _ _ _ hk
    obtain ⟨j, hj⟩ := List.getElem?_of_mem ((am_a_mem E 0 L i (am_v E (.inl a))).mpr ⟨.inl a, by simpa using ha, by omega, rfl⟩)
    exact lv_iinc X.1 X.2.1 hd hl hj (nu_add a n) hn rfl (fun ls' hl' => h1 H locs ls' hP hD hS (am_st_has (v := .inl _) hl' h4))
  · exact hk.elim
theorem am_iadd_ok (X : am_C Y cl E A p s m args meth c nL cc own Ts) (hd : decode cc pc = .ok (.iadd, 1)) : am_sd G (am_Jc Y cl E A p l e R s m args below meth c nL Q cs) Rt am_iadd pc := by
  intro L S h hk H locs ls hP hD hS hl
  unfold am_iadd at hk
  split at hk
  · rename_i b a S
    refine lv_iadd X.1 X.2.1 hd ?_
    rw [nu_add]
    exact hk H locs ls hP hD hS hl
  · exact hk.elim
theorem am_isub_ok (X : am_C Y cl E A p s m args meth c nL cc own Ts) (hd : decode cc pc = .ok (.isub, 1)) : am_sd G (am_Jc Y cl E A p l e R s m args below meth c nL Q cs) Rt am_isub pc := by
  intro L S h hk H locs ls hP hD hS hl
  unfold am_isub at hk
  split at hk
  · refine lv_isub X.1 X.2.1 hd ?_
    rw [nu_sub]
    exact hk H locs ls hP hD hS hl
  · exact hk.elim
theorem am_imul_ok (X : am_C Y cl E A p s m args meth c nL cc own Ts) (hd : decode cc pc = .ok (.imul, 1)) : am_sd G (am_Jc Y cl E A p l e R s m args below meth c nL Q cs) Rt am_imul pc := by
  intro L S h hk H locs ls hP hD hS hl
  unfold am_imul at hk
  split at hk
  · refine lv_imul X.1 X.2.1 hd ?_
    rw [nu_mul]
    exact hk H locs ls hP hD hS hl
  · exact hk.elim
theorem am_ladd_ok (X : am_C Y cl E A p s m args meth c nL cc own Ts) (hd : decode cc pc = .ok (.ladd, 1)) : am_sd G (am_Jc Y cl E A p l e R s m args below meth c nL Q cs) Rt am_ladd pc := by
  intro L S h hk H locs ls hP hD hS hl
  unfold am_ladd at hk
  split at hk
  · refine lv_ladd X.1 X.2.1 hd ?_
    rw [nu_ladd]
    exact hk H locs ls hP hD hS hl
  · exact hk.elim
theorem am_lsub_ok (X : am_C Y cl E A p s m args meth c nL cc own Ts) (hd : decode cc pc = .ok (.lsub, 1)) : am_sd G (am_Jc Y cl E A p l e R s m args below meth c nL Q cs) Rt am_lsub pc := by
  intro L S h hk H locs ls hP hD hS hl
  unfold am_lsub at hk
  split at hk
  · refine lv_lsub X.1 X.2.1 hd ?_
    rw [nu_lsub]
    exact hk H locs ls hP hD hS hl
  · exact hk.elim
theorem am_lmul_ok (X : am_C Y cl E A p s m args meth c nL cc own Ts) (hd : decode cc pc = .ok (.lmul, 1)) : am_sd G (am_Jc Y cl E A p l e R s m args below meth c nL Q cs) Rt am_lmul pc := by
  intro L S h hk H locs ls hP hD hS hl
  unfold am_lmul at hk
  split at hk
  · refine lv_lmul X.1 X.2.1 hd ?_
    rw [nu_lmul]
    exact hk H locs ls hP hD hS hl
  · exact hk.elim
theorem nu_ne0 {b : Int} (b1 : 0 < b) (b2 : b < 2147483648) : ¬ Int32.ofInt b = 0 := fun h => by
  have := (nu_eq (a := b) (b := 0) (by omega) b2 (by omega) (by omega)).mp h
  omega
theorem am_idiv_ok (X : am_C Y cl E A p s m args meth c nL cc own Ts) (hd : decode cc pc = .ok (.idiv, 1)) : am_sd G (am_Jc Y cl E A p l e R s m args below meth c nL Q cs) Rt am_idiv pc := by
  intro L S h hk H locs ls hP hD hS hl
  unfold am_idiv at hk
  split at hk
  · obtain ⟨⟨h1, h2, h3, h4⟩, hk⟩ := hk
    refine lv_idiv X.1 X.2.1 hd (nu_ne0 h3 h4) ?_
    rw [nu_div h1 h2 h3 h4]
    exact hk H locs ls hP hD hS hl
  · exact hk.elim
theorem am_irem_ok (X : am_C Y cl E A p s m args meth c nL cc own Ts) (hd : decode cc pc = .ok (.irem, 1)) : am_sd G (am_Jc Y cl E A p l e R s m args below meth c nL Q cs) Rt am_irem pc := by
  intro L S h hk H locs ls hP hD hS hl
  unfold am_irem at hk
  split at hk
  · obtain ⟨⟨h1, h2, h3, h4⟩, hk⟩ := hk
    refine lv_irem X.1 X.2.1 hd (nu_ne0 h3 h4) ?_
    rw [nu_rem h1 h2 h3 h4]
    exact hk H locs ls hP hD hS hl
  · exact hk.elim
theorem am_i2l_ok (X : am_C Y cl E A p s m args meth c nL cc own Ts) (hd : decode cc pc = .ok (.i2l, 1)) : am_sd G (am_Jc Y cl E A p l e R s m args below meth c nL Q cs) Rt am_i2l pc := by
  intro L S h hk H locs ls hP hD hS hl
  unfold am_i2l at hk
  split at hk
  · obtain ⟨⟨h1, h2⟩, hk⟩ := hk
    exact lv_i2l X.1 X.2.1 hd (nu_i2l h1 h2) (hk H locs ls hP hD hS hl)
  · exact hk.elim
theorem am_dup_ok (X : am_C Y cl E A p s m args meth c nL cc own Ts) (hd : decode cc pc = .ok (.dup, 1)) : am_sd G (am_Jc Y cl E A p l e R s m args below meth c nL Q cs) Rt am_dup pc := by
  intro L S h hk H locs ls hP hD hS hl
  unfold am_dup at hk
  split at hk
  · exact lv_dup X.1 X.2.1 hd rfl (hk H locs ls hP hD hS hl)
  · exact lv_dup X.1 X.2.1 hd rfl (hk H locs ls hP hD hS hl)
  · exact hk.elim
theorem am_goto_ok (X : am_C Y cl E A p s m args meth c nL cc own Ts) {off : Int} {t : Nat} (hd : decode cc pc = .ok (.goto off, 3)) (ht : (pc : Int) + off = (t : Int)) : am_sd G (am_Jc Y cl E A p l e R s m args below meth c nL Q cs) Rt (am_goto t) pc := by
  intro L S h hk H locs ls hP hD hS hl
  exact lv_goto X.1 X.2.1 hd ht (hk H locs ls hP hD hS hl)
end HA
