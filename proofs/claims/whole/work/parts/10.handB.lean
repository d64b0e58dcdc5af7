/-! branches, fields, arrays -/
section HB
variable {Y : List AL} {cl : List vw_C} {E : AE} {A : Nat → Prop} {p : Program} {l : Launch} {e : Env} {R : Room} {s : State} {m : MethodId} {args : Array Value} {below : List Frame} {meth : Method} {c : Code} {nL : Nat} {Q : State → Prop} {cc : ByteArray} {own : String} {Ts : List Cond} {G : AG} {Rt : AR} {pc : Nat} {cs : Nat × Nat}
theorem am_if_eq_ok (X : am_C Y cl E A p s m args meth c nL cc own Ts) {off : Int} {t : Nat} (hd : decode cc pc = .ok (.ifCond .eq off, 3)) (ht : (pc : Int) + off = (t : Int)) : am_sd G (am_Jc Y cl E A p l e R s m args below meth c nL Q cs) Rt (am_if 0 t) pc := by
  intro L S h hk H locs ls hP hD hS hl
  unfold am_if at hk
  split at hk
  · rename_i a S
    obtain ⟨⟨h1, h2⟩, hk⟩ := hk
    exact lv_if_eq X.1 X.2.1 hd ht (fun q => hk.1 ((nu_eq (a := a) (b := 0) h1 h2 (by omega) (by omega)).mp q) H locs ls hP hD hS hl) (fun q => hk.2 (fun z => q ((nu_eq (a := a) (b := 0) h1 h2 (by omega) (by omega)).mpr z)) H locs ls hP hD hS hl)
  · exact hk.elim
theorem am_icmp_eq_ok (X : am_C Y cl E A p s m args meth c nL cc own Ts) {off : Int} {t : Nat} (hd : decode cc pc = .ok (.if_icmp .eq off, 3)) (ht : (pc : Int) + off = (t : Int)) : am_sd G (am_Jc Y cl E A p l e R s m args below meth c nL Q cs) Rt (am_icmp 0 t) pc := by
  intro L S h hk H locs ls hP hD hS hl
  unfold am_icmp at hk
  split at hk
  · rename_i b a S
    obtain ⟨⟨h1, h2, h3, h4⟩, hk⟩ := hk
    exact lv_icmp_eq X.1 X.2.1 hd ht (fun q => hk.1 ((nu_eq (a := a) (b := b) h1 h2 h3 h4).mp q) H locs ls hP hD hS hl) (fun q => hk.2 (fun z => q ((nu_eq (a := a) (b := b) h1 h2 h3 h4).mpr z)) H locs ls hP hD hS hl)
  · exact hk.elim
theorem am_lcmp_eq_ok (X : am_C Y cl E A p s m args meth c nL cc own Ts) {off : Int} {t : Nat} (hd : decode cc pc = .ok (.lcmp, 1)) (hd2 : decode cc (pc + 1) = .ok (.ifCond .eq off, 3)) (ht : ((pc + 1 : Nat) : Int) + off = (t : Int)) : am_sd G (am_Jc Y cl E A p l e R s m args below meth c nL Q cs) Rt (am_lcmp 0 t) pc := by
  intro L S h hk H locs ls hP hD hS hl
  unfold am_lcmp at hk
  split at hk
  · rename_i b a S
    obtain ⟨⟨h1, h2, h3, h4⟩, hk⟩ := hk
    refine W.lcmp X.1 X.2.1 hd ?_
    rw [nu_cmp h1 h2 h3 h4]
    generalize hv : (if b < a then (1 : Int) else if a = b then 0 else -1) = v
    have hr : -2147483648 ≤ v ∧ v < 2147483648 := by omega
    exact lv_if_eq X.1 X.2.1 hd2 ht (fun q => hk.1 (by have q2 := (nu_eq (b := 0) hr.1 hr.2 (by omega) (by omega)).mp q; omega) H locs ls hP hD hS hl) (fun q => hk.2 (by have q2 := mt (nu_eq (b := 0) hr.1 hr.2 (by omega) (by omega)).mpr q; omega) H locs ls hP hD hS hl)
  · exact hk.elim
theorem am_if_ne_ok (X : am_C Y cl E A p s m args meth c nL cc own Ts) {off : Int} {t : Nat} (hd : decode cc pc = .ok (.ifCond .ne off, 3)) (ht : (pc : Int) + off = (t : Int)) : am_sd G (am_Jc Y cl E A p l e R s m args below meth c nL Q cs) Rt (am_if 1 t) pc := by
  intro L S h hk H locs ls hP hD hS hl
  unfold am_if at hk
  split at hk
  · rename_i a S
    obtain ⟨⟨h1, h2⟩, hk⟩ := hk
    exact lv_if_ne X.1 X.2.1 hd ht (fun q => hk.1 (fun z => q ((nu_eq (a := a) (b := 0) h1 h2 (by omega) (by omega)).mpr z)) H locs ls hP hD hS hl) (fun q => hk.2 ((nu_eq (a := a) (b := 0) h1 h2 (by omega) (by omega)).mp q) H locs ls hP hD hS hl)
  · exact hk.elim
theorem am_icmp_ne_ok (X : am_C Y cl E A p s m args meth c nL cc own Ts) {off : Int} {t : Nat} (hd : decode cc pc = .ok (.if_icmp .ne off, 3)) (ht : (pc : Int) + off = (t : Int)) : am_sd G (am_Jc Y cl E A p l e R s m args below meth c nL Q cs) Rt (am_icmp 1 t) pc := by
  intro L S h hk H locs ls hP hD hS hl
  unfold am_icmp at hk
  split at hk
  · rename_i b a S
    obtain ⟨⟨h1, h2, h3, h4⟩, hk⟩ := hk
    exact lv_icmp_ne X.1 X.2.1 hd ht (fun q => hk.1 (fun z => q ((nu_eq (a := a) (b := b) h1 h2 h3 h4).mpr z)) H locs ls hP hD hS hl) (fun q => hk.2 ((nu_eq (a := a) (b := b) h1 h2 h3 h4).mp q) H locs ls hP hD hS hl)
  · exact hk.elim
theorem am_lcmp_ne_ok (X : am_C Y cl E A p s m args meth c nL cc own Ts) {off : Int} {t : Nat} (hd : decode cc pc = .ok (.lcmp, 1)) (hd2 : decode cc (pc + 1) = .ok (.ifCond .ne off, 3)) (ht : ((pc + 1 : Nat) : Int) + off = (t : Int)) : am_sd G (am_Jc Y cl E A p l e R s m args below meth c nL Q cs) Rt (am_lcmp 1 t) pc := by
  intro L S h hk H locs ls hP hD hS hl
  unfold am_lcmp at hk
  split at hk
  · rename_i b a S
    obtain ⟨⟨h1, h2, h3, h4⟩, hk⟩ := hk
    refine W.lcmp X.1 X.2.1 hd ?_
    rw [nu_cmp h1 h2 h3 h4]
    generalize hv : (if b < a then (1 : Int) else if a = b then 0 else -1) = v
    have hr : -2147483648 ≤ v ∧ v < 2147483648 := by omega
    exact lv_if_ne X.1 X.2.1 hd2 ht (fun q => hk.1 (by have q2 := mt (nu_eq (b := 0) hr.1 hr.2 (by omega) (by omega)).mpr q; omega) H locs ls hP hD hS hl) (fun q => hk.2 (by have q2 := (nu_eq (b := 0) hr.1 hr.2 (by omega) (by omega)).mp q; omega) H locs ls hP hD hS hl)
  · exact hk.elim
theorem am_if_lt_ok (X : am_C Y cl E A p s m args meth c nL cc own Ts) {off : Int} {t : Nat} (hd : decode cc pc = .ok (.ifCond .lt off, 3)) (ht : (pc : Int) + off = (t : Int)) : am_sd G (am_Jc Y cl E A p l e R s m args below meth c nL Q cs) Rt (am_if 2 t) pc := by
  intro L S h hk H locs ls hP hD hS hl
  unfold am_if at hk
  split at hk
  · rename_i a S
    obtain ⟨⟨h1, h2⟩, hk⟩ := hk
    exact lv_if_lt X.1 X.2.1 hd ht (fun q => hk.1 ((nu_lt (a := a) (b := 0) h1 h2 (by omega) (by omega)).mp q) H locs ls hP hD hS hl) (fun q => hk.2 (Int.not_lt.mp (fun z => q ((nu_lt (a := a) (b := 0) h1 h2 (by omega) (by omega)).mpr z))) H locs ls hP hD hS hl)
  · exact hk.elim
theorem am_icmp_lt_ok (X : am_C Y cl E A p s m args meth c nL cc own Ts) {off : Int} {t : Nat} (hd : decode cc pc = .ok (.if_icmp .lt off, 3)) (ht : (pc : Int) + off = (t : Int)) : am_sd G (am_Jc Y cl E A p l e R s m args below meth c nL Q cs) Rt (am_icmp 2 t) pc := by
  intro L S h hk H locs ls hP hD hS hl
  unfold am_icmp at hk
  split at hk
  · rename_i b a S
    obtain ⟨⟨h1, h2, h3, h4⟩, hk⟩ := hk
    exact lv_icmp_lt X.1 X.2.1 hd ht (fun q => hk.1 ((nu_lt (a := a) (b := b) h1 h2 h3 h4).mp q) H locs ls hP hD hS hl) (fun q => hk.2 (Int.not_lt.mp (fun z => q ((nu_lt (a := a) (b := b) h1 h2 h3 h4).mpr z))) H locs ls hP hD hS hl)
  · exact hk.elim
theorem am_lcmp_lt_ok (X : am_C Y cl E A p s m args meth c nL cc own Ts) {off : Int} {t : Nat} (hd : decode cc pc = .ok (.lcmp, 1)) (hd2 : decode cc (pc + 1) = .ok (.ifCond .lt off, 3)) (ht : ((pc + 1 : Nat) : Int) + off = (t : Int)) : am_sd G (am_Jc Y cl E A p l e R s m args below meth c nL Q cs) Rt (am_lcmp 2 t) pc := by
  intro L S h hk H locs ls hP hD hS hl
  unfold am_lcmp at hk
  split at hk
  · rename_i b a S
    obtain ⟨⟨h1, h2, h3, h4⟩, hk⟩ := hk
    refine W.lcmp X.1 X.2.1 hd ?_
    rw [nu_cmp h1 h2 h3 h4]
    generalize hv : (if b < a then (1 : Int) else if a = b then 0 else -1) = v
    have hr : -2147483648 ≤ v ∧ v < 2147483648 := by omega
    exact lv_if_lt X.1 X.2.1 hd2 ht (fun q => hk.1 (by have q2 := (nu_lt (b := 0) hr.1 hr.2 (by omega) (by omega)).mp q; omega) H locs ls hP hD hS hl) (fun q => hk.2 (by have q2 := mt (nu_lt (b := 0) hr.1 hr.2 (by omega) (by omega)).mpr q; omega) H locs ls hP hD hS hl)
  · exact hk.elim
theorem am_if_ge_ok (X : am_C Y cl E A p s m args meth c nL cc own Ts) {off : Int} {t : Nat} (hd : decode cc pc = .ok (.ifCond .ge off, 3)) (ht : (pc : Int) + off = (t : Int)) : am_sd G (am_Jc Y cl E A p l e R s m args below meth c nL Q cs) Rt (am_if 3 t) pc := by
  intro L S h hk H locs ls hP hD hS hl
  unfold am_if at hk
  split at hk
  · rename_i a S
    obtain ⟨⟨h1, h2⟩, hk⟩ := hk
    exact lv_if_ge X.1 X.2.1 hd ht (fun q => hk.1 ((nu_le (a := 0) (b := a) (by omega) (by omega) h1 h2).mp q) H locs ls hP hD hS hl) (fun q => hk.2 (Int.not_le.mp (fun z => q ((nu_le (a := 0) (b := a) (by omega) (by omega) h1 h2).mpr z))) H locs ls hP hD hS hl)
  · exact hk.elim
theorem am_icmp_ge_ok (X : am_C Y cl E A p s m args meth c nL cc own Ts) {off : Int} {t : Nat} (hd : decode cc pc = .ok (.if_icmp .ge off, 3)) (ht : (pc : Int) + off = (t : Int)) : am_sd G (am_Jc Y cl E A p l e R s m args below meth c nL Q cs) Rt (am_icmp 3 t) pc := by
  intro L S h hk H locs ls hP hD hS hl
  unfold am_icmp at hk
  split at hk
  · rename_i b a S
    obtain ⟨⟨h1, h2, h3, h4⟩, hk⟩ := hk
    exact lv_icmp_ge X.1 X.2.1 hd ht (fun q => hk.1 ((nu_le (a := b) (b := a) h3 h4 h1 h2).mp q) H locs ls hP hD hS hl) (fun q => hk.2 (Int.not_le.mp (fun z => q ((nu_le (a := b) (b := a) h3 h4 h1 h2).mpr z))) H locs ls hP hD hS hl)
  · exact hk.elim
theorem am_lcmp_ge_ok (X : am_C Y cl E A p s m args meth c nL cc own Ts) {off : Int} {t : Nat} (hd : decode cc pc = .ok (.lcmp, 1)) (hd2 : decode cc (pc + 1) = .ok (.ifCond .ge off, 3)) (ht : ((pc + 1 : Nat) : Int) + off = (t : Int)) : am_sd G (am_Jc Y cl E A p l e R s m args below meth c nL Q cs) Rt (am_lcmp 3 t) pc := by
  intro L S h hk H locs ls hP hD hS hl
  unfold am_lcmp at hk
  split at hk
  · rename_i b a S
    obtain ⟨⟨h1, h2, h3, h4⟩, hk⟩ := hk
    refine W.lcmp X.1 X.2.1 hd ?_
    rw [nu_cmp h1 h2 h3 h4]
    generalize hv : (if b < a then (1 : Int) else if a = b then 0 else -1) = v
    have hr : -2147483648 ≤ v ∧ v < 2147483648 := by omega
    exact lv_if_ge X.1 X.2.1 hd2 ht (fun q => hk.1 (by have q2 := (nu_le (a := 0) (by omega) (by omega) hr.1 hr.2).mp q; omega) H locs ls hP hD hS hl) (fun q => hk.2 (by have q2 := mt (nu_le (a := 0) (by omega) (by omega) hr.1 hr.2).mpr q; omega) H locs ls hP hD hS hl)
  · exact hk.elim
theorem am_if_gt_ok (X : am_C Y cl E A p s m args meth c nL cc own Ts) {off : Int} {t : Nat} (hd : decode cc pc = .ok (.ifCond .gt off, 3)) (ht : (pc : Int) + off = (t : Int)) : am_sd G (am_Jc Y cl E A p l e R s m args below meth c nL Q cs) Rt (am_if 4 t) pc := by
  intro L S h hk H locs ls hP hD hS hl
  unfold am_if at hk
  split at hk
  · rename_i a S
    obtain ⟨⟨h1, h2⟩, hk⟩ := hk
    exact lv_if_gt X.1 X.2.1 hd ht (fun q => hk.1 ((nu_lt (a := 0) (b := a) (by omega) (by omega) h1 h2).mp q) H locs ls hP hD hS hl) (fun q => hk.2 (Int.not_lt.mp (fun z => q ((nu_lt (a := 0) (b := a) (by omega) (by omega) h1 h2).mpr z))) H locs ls hP hD hS hl)
  · exact hk.elim
theorem am_icmp_gt_ok (X : am_C Y cl E A p s m args meth c nL cc own Ts) {off : Int} {t : Nat} (hd : decode cc pc = .ok (.if_icmp .gt off, 3)) (ht : (pc : Int) + off = (t : Int)) : am_sd G (am_Jc Y cl E A p l e R s m args below meth c nL Q cs) Rt (am_icmp 4 t) pc := by
  intro L S h hk H locs ls hP hD hS hl
  unfold am_icmp at hk
  split at hk
  · rename_i b a S
    obtain ⟨⟨h1, h2, h3, h4⟩, hk⟩ := hk
    exact lv_icmp_gt X.1 X.2.1 hd ht (fun q => hk.1 ((nu_lt (a := b) (b := a) h3 h4 h1 h2).mp q) H locs ls hP hD hS hl) (fun q => hk.2 (Int.not_lt.mp (fun z => q ((nu_lt (a := b) (b := a) h3 h4 h1 h2).mpr z))) H locs ls hP hD hS hl)
  · exact hk.elim
theorem am_lcmp_gt_ok (X : am_C Y cl E A p s m args meth c nL cc own Ts) {off : Int} {t : Nat} (hd : decode cc pc = .ok (.lcmp, 1)) (hd2 : decode cc (pc + 1) = .ok (.ifCond .gt off, 3)) (ht : ((pc + 1 : Nat) : Int) + off = (t : Int)) : am_sd G (am_Jc Y cl E A p l e R s m args below meth c nL Q cs) Rt (am_lcmp 4 t) pc := by
  intro L S h hk H locs ls hP hD hS hl
  unfold am_lcmp at hk
  split at hk
  · rename_i b a S
    obtain ⟨⟨h1, h2, h3, h4⟩, hk⟩ := hk
    refine W.lcmp X.1 X.2.1 hd ?_
    rw [nu_cmp h1 h2 h3 h4]
    generalize hv : (if b < a then (1 : Int) else if a = b then 0 else -1) = v
    have hr : -2147483648 ≤ v ∧ v < 2147483648 := by omega
    exact lv_if_gt X.1 X.2.1 hd2 ht (fun q => hk.1 (by have q2 := (nu_lt (a := 0) (by omega) (by omega) hr.1 hr.2).mp q; omega) H locs ls hP hD hS hl) (fun q => hk.2 (by have q2 := mt (nu_lt (a := 0) (by omega) (by omega) hr.1 hr.2).mpr q; omega) H locs ls hP hD hS hl)
  · exact hk.elim
theorem am_if_le_ok (X : am_C Y cl E A p s m args meth c nL cc own Ts) {off : Int} {t : Nat} (hd : decode cc pc = .ok (.ifCond .le off, 3)) (ht : (pc : Int) + off = (t : Int)) : am_sd G (am_Jc Y cl E A p l e R s m args below meth c nL Q cs) Rt (am_if 5 t) pc := by
  intro L S h hk H locs ls hP hD hS hl
  unfold am_if at hk
  split at hk
  · rename_i a S
    obtain ⟨⟨h1, h2⟩, hk⟩ := hk
    exact lv_if_le X.1 X.2.1 hd ht (fun q => hk.1 ((nu_le (a := a) (b := 0) h1 h2 (by omega) (by omega)).mp q) H locs ls hP hD hS hl) (fun q => hk.2 (Int.not_le.mp (fun z => q ((nu_le (a := a) (b := 0) h1 h2 (by omega) (by omega)).mpr z))) H locs ls hP hD hS hl)
  · exact hk.elim
theorem am_icmp_le_ok (X : am_C Y cl E A p s m args meth c nL cc own Ts) {off : Int} {t : Nat} (hd : decode cc pc = .ok (.if_icmp .le off, 3)) (ht : (pc : Int) + off = (t : Int)) : am_sd G (am_Jc Y cl E A p l e R s m args below meth c nL Q cs) Rt (am_icmp 5 t) pc := by
  intro L S h hk H locs ls hP hD hS hl
  unfold am_icmp at hk
  split at hk
  · rename_i b a S
    obtain ⟨⟨h1, h2, h3, h4⟩, hk⟩ := hk
    exact lv_icmp_le X.1 X.2.1 hd ht (fun q => hk.1 ((nu_le (a := a) (b := b) h1 h2 h3 h4).mp q) H locs ls hP hD hS hl) (fun q => hk.2 (Int.not_le.mp (fun z => q ((nu_le (a := a) (b := b) h1 h2 h3 h4).mpr z))) H locs ls hP hD hS hl)
  · exact hk.elim
theorem am_lcmp_le_ok (X : am_C Y cl E A p s m args meth c nL cc own Ts) {off : Int} {t : Nat} (hd : decode cc pc = .ok (.lcmp, 1)) (hd2 : decode cc (pc + 1) = .ok (.ifCond .le off, 3)) (ht : ((pc + 1 : Nat) : Int) + off = (t : Int)) : am_sd G (am_Jc Y cl E A p l e R s m args below meth c nL Q cs) Rt (am_lcmp 5 t) pc := by
  intro L S h hk H locs ls hP hD hS hl
  unfold am_lcmp at hk
  split at hk
  · rename_i b a S
    obtain ⟨⟨h1, h2, h3, h4⟩, hk⟩ := hk
    refine W.lcmp X.1 X.2.1 hd ?_
    rw [nu_cmp h1 h2 h3 h4]
    generalize hv : (if b < a then (1 : Int) else if a = b then 0 else -1) = v
    have hr : -2147483648 ≤ v ∧ v < 2147483648 := by omega
    exact lv_if_le X.1 X.2.1 hd2 ht (fun q => hk.1 (by have q2 := (nu_le (b := 0) hr.1 hr.2 (by omega) (by omega)).mp q; omega) H locs ls hP hD hS hl) (fun q => hk.2 (by have q2 := mt (nu_le (b := 0) hr.1 hr.2 (by omega) (by omega)).mpr q; omega) H locs ls hP hD hS hl)
  · exact hk.elim
theorem am_get_ok (X : am_C Y cl E A p s m args meth c nL cc own Ts) {ci k idx : Nat} {C : String} {T : u_T} {N : Nat} (hc : cl[ci]? = some (C, T, N)) (hk0 : k < N) (hin : ∀ w ∈ u_ws C T N, w ∈ Ts) (hlink : Cond.fieldLink own idx (T k).1 (T k).2.1 (T k).2.2.1 ∈ Ts) (hd : decode cc pc = .ok (.getfield idx, 3)) : am_sd G (am_Jc Y cl E A p l e R s m args below meth c nL Q cs) Rt (am_get Y ci k) pc := by
  intro L S h hk H locs ls hP hD hS hl
  unfold am_get at hk
  split at hk
  · rename_i q S
    split at hk
    · rename_i o hY
      have hat := am_w_at (E := E) (h := h) hY
      obtain ⟨o1, o2⟩ := o
      dsimp only at hk
      split at hk
      · rename_i e1 e2
        have e1 : o1 = ci := by simpa using e1
        subst e1
        exact va_get (D := E.1) X.1 X.2.1 X.2.2.2.2.1 hin X.2.2.2.1 X.2.2.2.2.2.1 hP q hat hc k hk0 (X.2.2.2.2.1 _ hlink) (fun _ h9 => h9) (by have := am_f_int E (h q) 0 o2 k e2; rw [Nat.zero_add] at this; exact this) hd (hk H locs ls hP hD hS hl)
      · rename_i r e1 e2
        have e1 : o1 = ci := by simpa using e1
        subst e1
        exact va_get (D := E.1) X.1 X.2.1 X.2.2.2.2.1 hin X.2.2.2.1 X.2.2.2.2.2.1 hP q hat hc k hk0 (X.2.2.2.2.1 _ hlink) (fun _ h9 => h9) (am_f_ref E (h q) 0 o2 k r e2) hd (hk H locs ls hP hD hS hl)
      · exact hk.elim
    · exact hk.elim
  · exact hk.elim
theorem am_put_ok (X : am_C Y cl E A p s m args meth c nL cc own Ts) {ci k idx : Nat} {C : String} {T : u_T} {N : Nat} {ty0 : Nat → FieldType} (hc : cl[ci]? = some (C, T, N)) (hk0 : k < N) (hin : ∀ w ∈ u_ws C T N, w ∈ Ts) (hty : ∀ k, k < N → parseFieldDescriptor (T k).2.2.1 = some (ty0 k)) (hnm : ∀ a, a < N → ∀ b, b < N → a ≠ b → (T a).2.1 ≠ (T b).2.1) (hfin : (T k).2.2.2 = false) (hint : parseFieldDescriptor (T k).2.2.1 = some .int) (hlink : Cond.fieldLink own idx (T k).1 (T k).2.1 (T k).2.2.1 ∈ Ts) (hd : decode cc pc = .ok (.putfield idx, 3)) : am_sd G (am_Jc Y cl E A p l e R s m args below meth c nL Q cs) Rt (am_put Y ci k) pc := by
  intro L S h hk H locs ls hP hD hS hl
  unfold am_put at hk
  split at hk
  · rename_i v q S
    split at hk
    · rename_i o hY
      have hat := am_w_at (E := E) (h := h) hY
      obtain ⟨o1, o2⟩ := o
      dsimp only at hk
      split at hk
      · rename_i e1 e2
        have e1 : o1 = ci := by simpa using e1
        subst e1
        have hset : am_w Y E (am_up h q k v) = (am_w Y E h).set q (E.2.2 q, .inr (o1, (am_f E (h q) 0 o2).set k (.int (Int32.ofInt v)))) := by
          refine am_w_set hY ?_
          have := am_f_set E (h q) v 0 o2 k e2
          rw [Nat.zero_add] at this
          exact congrArg (fun z => (Sum.inr (o1, z) : va_E)) this
        refine va_put (D := E.1) (v := .int (Int32.ofInt v)) X.1 X.2.1 X.2.2.2.2.1 hin ty0 hty hnm X.2.2.2.1 X.2.2.2.2.2.1 hP hD hS q hat hc k hk0 (X.2.2.2.2.1 _ hlink) (fun _ h9 => h9) hfin hint rfl rfl (by rw [am_f_len]; exact (List.getElem?_eq_some_iff.mp e2).1) hd (fun H1 locs1 hP1 hD1 hS1 => ?_)
        rw [← hset] at hP1 hD1
        exact hk H1 locs1 ls hP1 hD1 hS1 hl
      · exact hk.elim
    · exact hk.elim
  · exact hk.elim
theorem am_putz_ok (X : am_C Y cl E A p s m args meth c nL cc own Ts) {ci k idx : Nat} {C : String} {T : u_T} {N : Nat} {ty0 : Nat → FieldType} (hc : cl[ci]? = some (C, T, N)) (hk0 : k < N) (hin : ∀ w ∈ u_ws C T N, w ∈ Ts) (hty : ∀ k, k < N → parseFieldDescriptor (T k).2.2.1 = some (ty0 k)) (hnm : ∀ a, a < N → ∀ b, b < N → a ≠ b → (T a).2.1 ≠ (T b).2.1) (hfin : (T k).2.2.2 = false) (hint : parseFieldDescriptor (T k).2.2.1 = some .boolean) (hlink : Cond.fieldLink own idx (T k).1 (T k).2.1 (T k).2.2.1 ∈ Ts) (hd : decode cc pc = .ok (.putfield idx, 3)) : am_sd G (am_Jc Y cl E A p l e R s m args below meth c nL Q cs) Rt (am_putz Y ci k) pc := by
  intro L S h hk H locs ls hP hD hS hl
  unfold am_putz at hk
  split at hk
  · rename_i v q S
    split at hk
    · rename_i o hY
      have hat := am_w_at (E := E) (h := h) hY
      obtain ⟨o1, o2⟩ := o
      dsimp only at hk
      split at hk
      · rename_i e1 e2
        have e1 : o1 = ci := by simpa using e1
        subst e1
        obtain ⟨hv, hk⟩ := hk
        have hset : am_w Y E (am_up h q k v) = (am_w Y E h).set q (E.2.2 q, .inr (o1, (am_f E (h q) 0 o2).set k (.int (Int32.ofInt v)))) := by
          refine am_w_set hY ?_
          have := am_f_set E (h q) v 0 o2 k e2
          rw [Nat.zero_add] at this
          exact congrArg (fun z => (Sum.inr (o1, z) : va_E)) this
        refine va_put (D := E.1) (v := .int (Int32.ofInt v)) X.1 X.2.1 X.2.2.2.2.1 hin ty0 hty hnm X.2.2.2.1 X.2.2.2.2.2.1 hP hD hS q hat hc k hk0 (X.2.2.2.2.1 _ hlink) (fun _ h9 => h9) hfin hint (by rcases hv with rfl | rfl <;> rfl) (by rcases hv with rfl | rfl <;> decide) (by rw [am_f_len]; exact (List.getElem?_eq_some_iff.mp e2).1) hd (fun H1 locs1 hP1 hD1 hS1 => ?_)
        rw [← hset] at hP1 hD1
        exact hk H1 locs1 ls hP1 hD1 hS1 hl
      · exact hk.elim
    · exact hk.elim
  · exact hk.elim
theorem am_iald_ok (X : am_C Y cl E A p s m args meth c nL cc own Ts) (hY0 : ∀ (q k n : Nat), Y[q]? = some (.inr (k, n)) → n < 2147483648) (hd : decode cc pc = .ok (.iaload, 1)) : am_sd G (am_Jc Y cl E A p l e R s m args below meth c nL Q cs) Rt (am_iald Y) pc := by
  intro L S h hk H locs ls hP hD hS hl
  unfold am_iald at hk
  split at hk
  · rename_i i q S
    split at hk
    · rename_i n hY
      have hat := am_w_at (E := E) (h := h) hY
      obtain ⟨⟨h1, h2⟩, hk⟩ := hk
      have hn := hY0 _ _ _ hY
      refine va_iald (D := E.1) X.1 X.2.1 X.2.2.2.2.2.1 hP q 0 hat rfl (nu_in h1 h2 hn) hd ?_
      rw [nu_nat h1 (by omega)]
      exact hk H locs ls hP hD hS hl
    · exact hk.elim
  · exact hk.elim
theorem am_zald_ok (X : am_C Y cl E A p s m args meth c nL cc own Ts) (hY0 : ∀ (q k n : Nat), Y[q]? = some (.inr (k, n)) → n < 2147483648) (hd : decode cc pc = .ok (.baload, 1)) : am_sd G (am_Jc Y cl E A p l e R s m args below meth c nL Q cs) Rt (am_zald Y) pc := by
  intro L S h hk H locs ls hP hD hS hl
  unfold am_zald at hk
  split at hk
  · rename_i i q S
    split at hk
    · rename_i n hY
      have hat := am_w_at (E := E) (h := h) hY
      obtain ⟨⟨h1, h2⟩, hk⟩ := hk
      have hn := hY0 _ _ _ hY
      refine va_zald (D := E.1) X.1 X.2.1 X.2.2.2.2.2.1 hP q 2 hat rfl (nu_in h1 h2 hn) hd ?_
      rw [nu_nat h1 (by omega)]
      exact hk H locs ls hP hD hS hl
    · exact hk.elim
  · exact hk.elim
theorem am_lald_ok (X : am_C Y cl E A p s m args meth c nL cc own Ts) (hY0 : ∀ (q k n : Nat), Y[q]? = some (.inr (k, n)) → n < 2147483648) (hd : decode cc pc = .ok (.laload, 1)) : am_sd G (am_Jc Y cl E A p l e R s m args below meth c nL Q cs) Rt (am_lald Y) pc := by
  intro L S h hk H locs ls hP hD hS hl
  unfold am_lald at hk
  split at hk
  · rename_i i q S
    split at hk
    · rename_i n hY
      have hat := am_w_at (E := E) (h := h) hY
      obtain ⟨⟨h1, h2⟩, hk⟩ := hk
      have hn := hY0 _ _ _ hY
      refine va_lald (D := E.1) X.1 X.2.1 X.2.2.2.2.2.1 hP q 1 hat rfl (nu_in h1 h2 hn) hd ?_
      rw [nu_nat h1 (by omega)]
      exact hk H locs ls hP hD hS hl
    · exact hk.elim
  · exact hk.elim
theorem am_iast_ok (X : am_C Y cl E A p s m args meth c nL cc own Ts) (hY0 : ∀ (q k n : Nat), Y[q]? = some (.inr (k, n)) → n < 2147483648) (hd : decode cc pc = .ok (.iastore, 1)) : am_sd G (am_Jc Y cl E A p l e R s m args below meth c nL Q cs) Rt (am_iast Y) pc := by
  intro L S h hk H locs ls hP hD hS hl
  unfold am_iast at hk
  split at hk
  · rename_i v i q S
    split at hk
    · rename_i n hY
      have hat := am_w_at (E := E) (h := h) hY
      obtain ⟨⟨h1, h2⟩, hk⟩ := hk
      have hn := hY0 _ _ _ hY
      have hset : am_w Y E (am_up h q i.toNat v) = (am_w Y E h).set q (E.2.2 q, .inl (E.2.1.1, n, .inl (upd (fun j => Int32.ofInt (h q j)) i.toNat (Int32.ofInt v)))) := by
        refine am_w_set hY ?_
        refine congrArg (fun z => (Sum.inl (E.2.1.1, n, Sum.inl z) : va_E)) ?_
        funext j
        unfold upd
        by_cases hj : j = i.toNat
        · simp [hj]
        · simp [hj]
      refine va_iast (D := E.1) (x := Int32.ofInt v) X.1 X.2.1 X.2.2.2.2.2.1 hP hD hS q 0 hat rfl (nu_in h1 h2 hn) hd (fun H1 locs1 hP1 hD1 hS1 => ?_)
      rw [nu_nat h1 (by omega)] at hP1 hD1
      rw [← hset] at hP1 hD1
      exact hk H1 locs1 ls hP1 hD1 hS1 hl
    · exact hk.elim
  · exact hk.elim
theorem am_last_ok (X : am_C Y cl E A p s m args meth c nL cc own Ts) (hY0 : ∀ (q k n : Nat), Y[q]? = some (.inr (k, n)) → n < 2147483648) (hd : decode cc pc = .ok (.lastore, 1)) : am_sd G (am_Jc Y cl E A p l e R s m args below meth c nL Q cs) Rt (am_last Y) pc := by
  intro L S h hk H locs ls hP hD hS hl
  unfold am_last at hk
  split at hk
  · rename_i v i q S
    split at hk
    · rename_i n hY
      have hat := am_w_at (E := E) (h := h) hY
      obtain ⟨⟨h1, h2⟩, hk⟩ := hk
      have hn := hY0 _ _ _ hY
      have hset : am_w Y E (am_up h q i.toNat v) = (am_w Y E h).set q (E.2.2 q, .inl (E.2.1.2.1, n, .inr (.inl (vp_updL (fun j => Int64.ofInt (h q j)) i.toNat (Int64.ofInt v))))) := by
        refine am_w_set hY ?_
        refine congrArg (fun z => (Sum.inl (E.2.1.2.1, n, Sum.inr (Sum.inl z)) : va_E)) ?_
        funext j
        unfold vp_updL
        by_cases hj : j = i.toNat
        · simp [hj]
        · simp [hj]
      refine va_last (D := E.1) (x := Int64.ofInt v) X.1 X.2.1 X.2.2.2.2.2.1 hP hD hS q 1 hat rfl (nu_in h1 h2 hn) hd (fun H1 locs1 hP1 hD1 hS1 => ?_)
      rw [nu_nat h1 (by omega)] at hP1 hD1
      rw [← hset] at hP1 hD1
      exact hk H1 locs1 ls hP1 hD1 hS1 hl
    · exact hk.elim
  · exact hk.elim
theorem am_zast_ok (X : am_C Y cl E A p s m args meth c nL cc own Ts) (hY0 : ∀ (q k n : Nat), Y[q]? = some (.inr (k, n)) → n < 2147483648) (hd : decode cc pc = .ok (.bastore, 1)) : am_sd G (am_Jc Y cl E A p l e R s m args below meth c nL Q cs) Rt (am_zast Y) pc := by
  intro L S h hk H locs ls hP hD hS hl
  unfold am_zast at hk
  split at hk
  · rename_i v i q S
    split at hk
    · rename_i n hY
      have hat := am_w_at (E := E) (h := h) hY
      obtain ⟨⟨h1, h2, hv⟩, hk⟩ := hk
      have hn := hY0 _ _ _ hY
      have hset : am_w Y E (am_up h q i.toNat v) = (am_w Y E h).set q (E.2.2 q, .inl (E.2.1.2.2, n, .inl (upd (fun j => Int32.ofInt (h q j)) i.toNat (Int32.ofInt v)))) := by
        refine am_w_set hY ?_
        refine congrArg (fun z => (Sum.inl (E.2.1.2.2, n, Sum.inl z) : va_E)) ?_
        funext j
        unfold upd
        by_cases hj : j = i.toNat
        · simp [hj]
        · simp [hj]
      have hnar : vp_nar .boolean (Int32.ofInt v) = Int32.ofInt v := by rcases hv with rfl | rfl <;> rfl
      refine va_zast (D := E.1) (x := Int32.ofInt v) X.1 X.2.1 X.2.2.2.2.2.1 hP hD hS q 2 hat rfl (nu_in h1 h2 hn) hd (fun H1 locs1 hP1 hD1 hS1 => ?_)
      rw [nu_nat h1 (by omega), hnar] at hP1 hD1
      rw [← hset] at hP1 hD1
      exact hk H1 locs1 ls hP1 hD1 hS1 hl
    · exact hk.elim
  · exact hk.elim
end HB
