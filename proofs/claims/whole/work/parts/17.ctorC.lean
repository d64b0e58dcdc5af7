/-! the machine that makes cells: it does what is asked -/
theorem nm_N.warm {s U : State} (hW : s.WarmedH U.vm) (h : nm_N s) : nm_N U := ⟨va_Nw.warmM hW h.1, va_Nw.warmM hW h.2⟩
theorem nm_N.same {u U : State} (hvm : u.vm = U.vm) (h : nm_N u) : nm_N U := ⟨va_Nw.same rfl hvm h.1, va_Nw.same rfl hvm h.2⟩
section NH
variable {cl : List vw_C} {E0 : AE} {n0 z0 : Nat} {A : Nat → Prop} {p : Program} {l : Launch} {e : Env} {R : Room} {s : State} {m : MethodId} {args : Array Value} {below : List Frame} {meth : Method} {c : Code} {nL : Nat} {Q : State → Prop} {cc : ByteArray} {own : String} {Ts : List Cond} {G : NG} {Rt : NR} {pc : Nat}
theorem nm_iconst_ok (X : nm_C cl E0 A p s m args meth c nL cc own Ts) {n : Int} (hd : decode cc pc = .ok (.iconst n, 1)) : nm_sd G (nm_J cl E0 n0 z0 A p l e R s m args below meth c nL Q) Rt (nm_ic n 1) pc := by
  intro Y L S h hk ad had H locs ls hP hD hS hl
  exact lv_iconst X.1 X.2.1 hd rfl (hk ad had H locs ls hP hD hS hl)
theorem nm_bipush_ok (X : nm_C cl E0 A p s m args meth c nL cc own Ts) {n : Int} (hd : decode cc pc = .ok (.bipush n, 2)) (hn : (Int8.ofInt n).toInt32 = Int32.ofInt n) : nm_sd G (nm_J cl E0 n0 z0 A p l e R s m args below meth c nL Q) Rt (nm_ic n 2) pc := by
  intro Y L S h hk ad had H locs ls hP hD hS hl
  exact lv_bipush X.1 X.2.1 hd hn (hk ad had H locs ls hP hD hS hl)
theorem nm_sipush_ok (X : nm_C cl E0 A p s m args meth c nL cc own Ts) {n : Int} (hd : decode cc pc = .ok (.sipush n, 3)) (hn : (Int16.ofInt n).toInt32 = Int32.ofInt n) : nm_sd G (nm_J cl E0 n0 z0 A p l e R s m args below meth c nL Q) Rt (nm_ic n 3) pc := by
  intro Y L S h hk ad had H locs ls hP hD hS hl
  exact lv_sipush X.1 X.2.1 hd hn (hk ad had H locs ls hP hD hS hl)
theorem nm_aload_n_ok (X : nm_C cl E0 A p s m args meth c nL cc own Ts) {k : Fin 4} (hd : decode cc pc = .ok (.aload_n k, 1)) : nm_sd G (nm_J cl E0 n0 z0 A p l e R s m args below meth c nL Q) Rt (nm_ald k.val 1) pc := by
  intro Y L S h hk ad had H locs ls hP hD hS hl
  unfold nm_ald at hk
  split at hk
  · rename_i a ha
    exact lv_aload_n X.1 X.2.1 hd rfl (am_l_at hl ha) (hk ad had H locs ls hP hD hS hl)
  · exact hk.elim
theorem nm_astore_n_ok (X : nm_C cl E0 A p s m args meth c nL cc own Ts) {k : Fin 4} (hn : k.val < nL) (hd : decode cc pc = .ok (.astore_n k, 1)) : nm_sd G (nm_J cl E0 n0 z0 A p l e R s m args below meth c nL Q) Rt (nm_ast k.val 1) pc := by
  intro Y L S h hk ad had H locs ls hP hD hS hl
  unfold nm_ast at hk
  split at hk
  · obtain ⟨L', h1, -, -, h4⟩ := am_st_ok _ _ _ _ hk
    exact lv_astore_n X.1 X.2.1 hd rfl hl hn rfl (fun ls' hl' => h1 ad had H locs ls' hP hD hS (am_st_has (v := .inr (.inr _)) hl' h4))
  · exact hk.elim
theorem nm_dup_ok (X : nm_C cl E0 A p s m args meth c nL cc own Ts) (hd : decode cc pc = .ok (.dup, 1)) : nm_sd G (nm_J cl E0 n0 z0 A p l e R s m args below meth c nL Q) Rt (nm_dup) pc := by
  intro Y L S h hk ad had H locs ls hP hD hS hl
  unfold nm_dup at hk
  split at hk
  · exact lv_dup X.1 X.2.1 hd rfl (hk ad had H locs ls hP hD hS hl)
  · exact hk.elim
theorem nm_obj_ok (X : nm_C cl E0 A p s m args meth c nL cc own Ts) {idx : Nat} (w1 : Cond.methodLink own idx Lib.objectInit ∈ Ts) (w2 : Cond.instanceMethod Lib.objectInit ∈ Ts) (w3 : Cond.code Lib.objectInit ⟨#[0xb1]⟩ 1 none ∈ Ts) (hf : 1 ≤ R.frames) (hlo : 20 ≤ R.locals) (hd : decode cc pc = .ok (.invokespecial idx, 3)) : nm_sd G (nm_J cl E0 n0 z0 A p l e R s m args below meth c nL Q) Rt (nm_obj) pc := by
  intro Y L S h hk ad had H locs ls hP hD hS hl
  unfold nm_obj at hk
  split at hk
  · rename_i a S
    split at hk
    · rename_i e2
      have e2 : am_cw S ≤ 8 := Nat.le_of_ble_eq_true e2
      exact W.objInit X.1 X.2.1 X.2.2.2.1 (X.2.2.2.2.1 _ w1) (X.2.2.2.2.1 _ w2) (X.2.2.2.2.1 _ w3) rfl (by rw [X.2.2.1]; exact hl.1) rfl hd hf (by show 2 * 0 + _ + 12 ≤ _; rw [am_cw_ok]; omega) (hk ad had H locs ls hP hD hS hl)
    · exact hk.elim
  · exact hk.elim
theorem nm_get_ok (X : nm_C cl E0 A p s m args meth c nL cc own Ts) {ci k idx : Nat} {C : String} {T : u_T} {N : Nat} (hc : cl[ci]? = some (C, T, N)) (hk0 : k < N) (hin : ∀ w ∈ u_ws C T N, w ∈ Ts) (hlink : Cond.fieldLink own idx (T k).1 (T k).2.1 (T k).2.2.1 ∈ Ts) (hd : decode cc pc = .ok (.getfield idx, 3)) : nm_sd G (nm_J cl E0 n0 z0 A p l e R s m args below meth c nL Q) Rt (nm_get ci k) pc := by
  intro Y L S h hk ad had H locs ls hP hD hS hl
  unfold nm_get at hk
  split at hk
  · rename_i q S
    split at hk
    · rename_i o hY
      have hat := nm_w_at (E := nm_ad E0 ad) (h := h) hY
      obtain ⟨o1, o2⟩ := o
      dsimp only at hk
      split at hk
      · rename_i r e1 e2
        have e1 : o1 = ci := by simpa using e1
        subst e1
        exact va_get (D := E0.1) X.1 X.2.1 X.2.2.2.2.1 hin X.2.2.2.1 X.2.2.2.2.2.1 hP q hat hc k hk0 (X.2.2.2.2.1 _ hlink) (fun _ h9 => h9) (nm_f_ref (nm_ad E0 ad) (h q) 0 o2 k r e2) hd (hk ad had H locs ls hP hD hS hl)
      · exact hk.elim
    · exact hk.elim
  · exact hk.elim
theorem nm_put_ok (X : nm_C cl E0 A p s m args meth c nL cc own Ts) {ci k idx : Nat} {C : String} {T : u_T} {N : Nat} {ty0 : Nat → FieldType} {ty : FieldType} (hc : cl[ci]? = some (C, T, N)) (hk0 : k < N) (hin : ∀ w ∈ u_ws C T N, w ∈ Ts) (hty : ∀ k, k < N → parseFieldDescriptor (T k).2.2.1 = some (ty0 k)) (hnm : ∀ a, a < N → ∀ b, b < N → a ≠ b → (T a).2.1 ≠ (T b).2.1) (hfin : (T k).2.2.2 = false) (hint : parseFieldDescriptor (T k).2.2.1 = some ty) (hty2 : ty = .int ∨ ty = .boolean) (hlink : Cond.fieldLink own idx (T k).1 (T k).2.1 (T k).2.2.1 ∈ Ts) (hd : decode cc pc = .ok (.putfield idx, 3)) : nm_sd G (nm_J cl E0 n0 z0 A p l e R s m args below meth c nL Q) Rt (nm_put ci k) pc := by
  intro Y L S h hk ad had H locs ls hP hD hS hl
  unfold nm_put at hk
  split at hk
  · rename_i v q S
    split at hk
    · rename_i o hY
      have hat := nm_w_at (E := nm_ad E0 ad) (h := h) hY
      obtain ⟨o1, o2⟩ := o
      dsimp only at hk
      split at hk
      · rename_i e1 e2
        have e1 : o1 = ci := by simpa using e1
        subst e1
        obtain ⟨hv, hk⟩ := hk
        have hset : nm_w Y (nm_ad E0 ad) (am_up h q k v) = (nm_w Y (nm_ad E0 ad) h).set q ((nm_ad E0 ad).2.2 q, .inr (o1, (nm_f (nm_ad E0 ad) (h q) 0 o2).set k (.int (Int32.ofInt v)))) := by
          have e9 : Y.set q (.inl (o1, o2)) = Y := by
            apply List.ext_getElem?
            intro i
            by_cases hi : i = q
            · subst hi; rw [List.getElem?_set_self (List.getElem?_eq_some_iff.mp hY).1, hY]
            · rw [List.getElem?_set_ne (Ne.symm hi)]
          have := nm_w_set (Y := Y) (E := nm_ad E0 ad) (h := h) (g := am_up h q k v) (c := q) (q' := .inl (o1, o2)) hY rfl (fun i hi => by funext j; simp [am_up, hi])
          rw [e9] at this
          rw [this]
          congr 2
          show (Sum.inr (o1, nm_f (nm_ad E0 ad) (am_up h q k v q) 0 o2) : va_E) = _
          have e8 : am_up h q k v q = fun j => if j = 0 + k then v else h q j := by funext j; simp [am_up]
          rw [e8, nm_f_set (nm_ad E0 ad) (h q) v 0 o2 k e2]
        refine va_put (D := E0.1) (v := .int (Int32.ofInt v)) X.1 X.2.1 X.2.2.2.2.1 hin ty0 hty hnm X.2.2.2.1 X.2.2.2.2.2.1 hP hD hS q hat hc k hk0 (X.2.2.2.2.1 _ hlink) (fun _ h9 => h9) hfin hint (by rcases hty2 with rfl | rfl <;> rcases hv with rfl | rfl <;> rfl) (by rcases hty2 with rfl | rfl <;> rcases hv with rfl | rfl <;> decide) (by rw [nm_f_len]; exact (List.getElem?_eq_some_iff.mp e2).1) hd (fun H1 locs1 hP1 hD1 hS1 => ?_)
        rw [← hset] at hP1 hD1
        exact hk ad had H1 locs1 ls hP1 hD1 hS1 hl
      · exact hk.elim
    · exact hk.elim
  · exact hk.elim
theorem nm_putr_ok (X : nm_C cl E0 A p s m args meth c nL cc own Ts) (hin2 : meth.name = "<init>") {ci k idx : Nat} {C : String} {T : u_T} {N : Nat} {ty0 : Nat → FieldType} {ty : FieldType} (hc : cl[ci]? = some (C, T, N)) (hk0 : k < N) (hin : ∀ w ∈ u_ws C T N, w ∈ Ts) (hty : ∀ k, k < N → parseFieldDescriptor (T k).2.2.1 = some (ty0 k)) (hnm : ∀ a, a < N → ∀ b, b < N → a ≠ b → (T a).2.1 ≠ (T b).2.1) (hfin : (T k).2.2.2 = true) (hdecl : (T k).1 = own) (hint : parseFieldDescriptor (T k).2.2.1 = some ty) (hn : ∀ a, narrow ty (.ref a) = .ref a) (hf : ∀ a, fits ty (.ref a) = true) (hlink : Cond.fieldLink own idx (T k).1 (T k).2.1 (T k).2.2.1 ∈ Ts) (hd : decode cc pc = .ok (.putfield idx, 3)) : nm_sd G (nm_J cl E0 n0 z0 A p l e R s m args below meth c nL Q) Rt (nm_putr ci k) pc := by
  intro Y L S h hk ad had H locs ls hP hD hS hl
  unfold nm_putr at hk
  split at hk
  · rename_i r q S
    split at hk
    · rename_i o hY
      have hat := nm_w_at (E := nm_ad E0 ad) (h := h) hY
      obtain ⟨o1, o2⟩ := o
      dsimp only at hk
      split at hk
      · rename_i e1 e2
        have e1 : o1 = ci := by simpa using e1
        subst e1
        have hk := nm_setk_ok _ _ _ _ (nm_setk_ok _ _ _ _ hk)
        have hset : nm_w (Y.set q (.inl (o1, o2.set k (some (some r))))) (nm_ad E0 ad) h = (nm_w Y (nm_ad E0 ad) h).set q ((nm_ad E0 ad).2.2 q, .inr (o1, (nm_f (nm_ad E0 ad) (h q) 0 o2).set k (.ref ((nm_ad E0 ad).2.2 r)))) :=
          nm_w_set hY (by show (Sum.inr (o1, nm_f (nm_ad E0 ad) (h q) 0 (o2.set k (some (some r)))) : va_E) = _; rw [nm_f_setr _ _ r 0 o2 k ⟨_, e2⟩]) (fun _ _ => rfl)
        refine va_putF (D := E0.1) (v := .ref ((nm_ad E0 ad).2.2 r)) X.1 X.2.1 X.2.2.2.2.1 hin ty0 hty hnm X.2.2.2.1 X.2.2.2.2.2.1 hP hD hS q hat hc k hk0 (X.2.2.2.2.1 _ hlink) (fun _ h9 => h9) hfin hin2 hdecl hint (hn _) (hf _) (by rw [nm_f_len]; exact (List.getElem?_eq_some_iff.mp e2).1) hd (fun H1 locs1 hP1 hD1 hS1 => ?_)
        rw [← hset] at hP1 hD1
        have hj := hk ad had H1 locs1 ls hP1 hD1 hS1 hl
        rw [List.length_set, nm_sz_set _ _ _ _ hY (by simp [nm_s1])] at hj
        exact hj
      · exact hk.elim
    · exact hk.elim
  · exact hk.elim
theorem nm_new_ok (X : nm_C cl E0 A p s m args meth c nL cc own Ts) {d mc ms ci idx : Nat} {fs : List (Option (Option Nat))} {C : String} {T : u_T} {N : Nat} {ty : Nat → FieldType} (hc : cl[ci]? = some (C, T, N)) (hin : ∀ w ∈ u_ws C T N, w ∈ Ts) (hty : ∀ k, k < N → parseFieldDescriptor (T k).2.2.1 = some (ty k)) (w1 : Cond.classLink own idx C ∈ Ts) (w2 : Cond.instantiable C N ∈ Ts) (w3 : Cond.initialized C ∈ Ts) (hdef : ∀ (E : AE) (j : Nat), j < N → defaultValue (ty j) = vp_V (nm_f E (fun _ => 0) 0 fs) j) (hnor : ∀ (i r : Nat), fs[i]? = some (some (some r)) → False) (hlen : fs.length = N) (hRc : mc ≤ R.cells) (hRs : ms ≤ R.slots) (hd : decode cc pc = .ok (.new idx, 3)) : nm_sd G (nm_J cl E0 n0 z0 A p l e R s m args below meth c nL Q) Rt (nm_new d n0 z0 mc ms ci fs) pc := by
  intro Y L S h hk ad had H locs ls hP hD hS hl
  unfold nm_new at hk
  split at hk
  · rename_i hb
    split at hk
    case h_2 => exact hk.elim
    rename_i hq9
    have hq9 : Y.length = n0 + d := Nat.eq_of_beq_eq_true hq9
    rw [← hq9] at hk
    obtain ⟨h0, hk⟩ := hk
    have hk := nm_app_ok _ _ _ hk
    simp only [nm_chk, Bool.and_eq_true] at hb
    obtain ⟨⟨⟨⟨⟨⟨⟨⟨b1, b9⟩, b2⟩, b3⟩, b4⟩, b5⟩, b6⟩, b7⟩, b8⟩ := hb; have b9 := Nat.le_of_ble_eq_true b9
    have b5 := Nat.le_of_ble_eq_true b5
    have b6 := Nat.le_of_ble_eq_true b6
    have b7 := Nat.le_of_ble_eq_true b7
    have b8 := Nat.le_of_ble_eq_true b8
    have hs1 : nm_s1 (.inl (ci, fs)) = N := hlen
    rw [hs1] at b8
    have hoY : nm_ok Y := nm_okb_ok b1
    have hz : h Y.length = fun _ => 0 := funext h0
    have hok : nm_ok (Y ++ [.inl (ci, fs)]) := by
      intro q o hq i r hr
      rw [List.length_append, List.length_singleton]
      by_cases hl : q < Y.length
      · rw [List.getElem?_append_left hl] at hq
        have := hoY q o hq i r hr
        omega
      · rw [List.getElem?_append_right (by omega)] at hq
        exact nm_okb_ok b2 (q - Y.length) o hq i r hr
    refine va_new (D := E0.1) (fs := nm_f E0 (fun _ => 0) 0 fs) X.1 X.2.1 X.2.2.2.2.1 hin ty hty X.2.2.2.1 (X.2.2.2.2.1 _ w1) (X.2.2.2.2.1 _ w2) (X.2.2.2.2.1 _ w3) X.2.2.2.2.2.1 hP hD hS X.2.2.2.2.2.2.1 hc (hdef E0) (by omega) (by omega) hd (fun q H1 hP1 hD1 hS1 => ?_)
    have hE : ∀ k, k < Y.length ∨ 1000 ≤ k → (nm_ad E0 (fun k => if k = Y.length then q else ad k)).2.2 k = (nm_ad E0 ad).2.2 k := fun k hk => by show (if k = Y.length then q else ad k) = ad k; rw [if_neg (by omega)]
    have hw := nm_w_push (Y := Y) (E := nm_ad E0 ad) (h := h) (a := q) hok hoY
    have hcell : nm_c (nm_ad (nm_ad E0 ad) (fun k => if k = Y.length then q else (nm_ad E0 ad).2.2 k)) (h Y.length) (.inl (ci, fs)) = .inr (ci, nm_f E0 (fun _ => 0) 0 fs) := by
      show (Sum.inr (ci, nm_f _ (h Y.length) 0 fs) : va_E) = _
      rw [hz]
      rw [nm_f_same _ E0 0 fs (fun _ _ => rfl) (fun i r hi => (hnor i r hi).elim)]
    rw [hcell] at hw
    rw [← hw] at hP1 hD1
    have hj := hk (fun k => if k = Y.length then q else ad k) (fun k hk => by show (if k = Y.length then q else ad k) = _; rw [if_neg (by omega)]; exact had k hk) H1 locs ls hP1 hD1 hS1 (by rw [nm_vl_ok hE 0 b3]; exact hl)
    rw [List.length_append, List.length_singleton, nm_sz_app, hs1, show Y.length + 1 - n0 = Y.length - n0 + 1 by omega, show nm_sz Y + N - z0 = nm_sz Y - z0 + N by omega] at hj
    rw [List.map_cons, nm_vr_ok hE b4] at hj
    have hv : am_v (nm_ad E0 (fun k => if k = Y.length then q else ad k)) (.inr (.inr Y.length)) = .ref q := by show Value.ref (if Y.length = Y.length then q else ad Y.length) = _; rw [if_pos rfl]
    rw [hv] at hj
    exact hj
  · exact hk.elim
theorem nm_newa0_ok (X : nm_C cl E0 A p s m args meth c nL cc own Ts) {d mc ms : Nat} (w1 : Cond.arrayClass .int ∈ Ts) (hRc : mc ≤ R.cells) (hRs : ms ≤ R.slots) (hd : decode cc pc = .ok (.newarray .int, 2)) : nm_sd G (nm_J cl E0 n0 z0 A p l e R s m args below meth c nL Q) Rt (nm_newa d n0 z0 mc ms 0) pc := by
  intro Y L S h hk ad had H locs ls hP hD hS hl
  unfold nm_newa at hk
  split at hk
  · rename_i a S
    split at hk
    · rename_i hb
      split at hk
      case h_2 => exact hk.elim
      rename_i hq9
      have hq9 : Y.length = n0 + d := Nat.eq_of_beq_eq_true hq9
      rw [← hq9] at hk
      obtain ⟨h0, ⟨a1, a2⟩, hk⟩ := hk
      have hk := nm_app_ok _ _ _ hk
      simp only [nm_chk, Bool.and_eq_true] at hb
      obtain ⟨⟨⟨⟨⟨⟨⟨⟨b1, b9⟩, b2⟩, b3⟩, b4⟩, b5⟩, b6⟩, b7⟩, b8⟩ := hb; have b9 := Nat.le_of_ble_eq_true b9
      have b5 := Nat.le_of_ble_eq_true b5
      have b6 := Nat.le_of_ble_eq_true b6
      have b7 := Nat.le_of_ble_eq_true b7
      have b8 := Nat.le_of_ble_eq_true b8
      have hs1 : nm_s1 (.inr (0, a.toNat)) = a.toNat := rfl
      rw [hs1] at b8
      have hoY : nm_ok Y := nm_okb_ok b1
      have hz : h Y.length = fun _ => 0 := funext h0
      have hok : nm_ok (Y ++ [.inr (0, a.toNat)]) := by
        intro q o hq i r hr
        rw [List.length_append, List.length_singleton]
        by_cases hl : q < Y.length
        · rw [List.getElem?_append_left hl] at hq
          have := hoY q o hq i r hr
          omega
        · rw [List.getElem?_append_right (by omega)] at hq
          exact nm_okb_ok b2 (q - Y.length) o hq i r hr
      have hlt : ¬ Int32.ofInt a < 0 := fun q => by have := (nu_lt (a := a) (b := 0) (by omega) (by omega) (by omega) (by omega)).mp q; omega
      refine va_newa (D := E0.1) (atype := .int) (ty := .int) (a0 := (a.toNat, (.inl (fun j => Int32.ofInt (h Y.length j))))) X.1 X.2.1 (X.2.2.2.2.1 _ w1) rfl X.2.2.2.2.2.1 hP hD hS X.2.2.2.2.2.2.1 (fun cA => by rw [hz]; rfl) hlt (nu_nat a1 (by omega)) (by show a.toNat * _ ≤ _; simp only [componentBytes]; omega) (by omega) (by omega) hd (fun q cA H1 hK1 hP1 hD1 hS1 => ?_)
      have hcA : cA = E0.2.1.1 := by
        have q1 : s.vm.findClass ("[" ++ FieldType.toString .int) = some cA := (hK1.2 3 (cA, .int) rfl).2
        have q2 : s.vm.findClass ("[" ++ FieldType.toString .int) = some E0.2.1.1 := (X.2.2.2.2.2.1.2 0 (E0.2.1.1, .int) rfl).2
        exact Option.some.inj (q1.symm.trans q2)
      subst hcA
      have hE : ∀ k, k < Y.length ∨ 1000 ≤ k → (nm_ad E0 (fun k => if k = Y.length then q else ad k)).2.2 k = (nm_ad E0 ad).2.2 k := fun k hk => by show (if k = Y.length then q else ad k) = ad k; rw [if_neg (by omega)]
      have hw := nm_w_push (Y := Y) (E := nm_ad E0 ad) (h := h) (a := q) hok hoY
      have hw2 : nm_w (Y ++ [.inr (0, a.toNat)]) (nm_ad E0 (fun k => if k = Y.length then q else ad k)) h = nm_w Y (nm_ad E0 ad) h ++ [(q, .inl (E0.2.1.1, (a.toNat, (.inl (fun j => Int32.ofInt (h Y.length j))))))] := hw
      rw [← hw2] at hP1 hD1
      have hj := hk (fun k => if k = Y.length then q else ad k) (fun k hk => by show (if k = Y.length then q else ad k) = _; rw [if_neg (by omega)]; exact had k hk) H1 locs ls hP1 hD1 hS1 (by rw [nm_vl_ok hE 0 b3]; exact hl)
      rw [List.length_append, List.length_singleton, nm_sz_app, hs1, show Y.length + 1 - n0 = Y.length - n0 + 1 by omega, show nm_sz Y + a.toNat - z0 = nm_sz Y - z0 + a.toNat by omega] at hj
      rw [List.map_cons, nm_vr_ok hE b4] at hj
      have hv : am_v (nm_ad E0 (fun k => if k = Y.length then q else ad k)) (.inr (.inr Y.length)) = .ref q := by show Value.ref (if Y.length = Y.length then q else ad Y.length) = _; rw [if_pos rfl]
      rw [hv] at hj
      exact hj
    · exact hk.elim
  · exact hk.elim
theorem nm_newa1_ok (X : nm_C cl E0 A p s m args meth c nL cc own Ts) {d mc ms : Nat} (w1 : Cond.arrayClass .long ∈ Ts) (hRc : mc ≤ R.cells) (hRs : ms ≤ R.slots) (hd : decode cc pc = .ok (.newarray .long, 2)) : nm_sd G (nm_J cl E0 n0 z0 A p l e R s m args below meth c nL Q) Rt (nm_newa d n0 z0 mc ms 1) pc := by
  intro Y L S h hk ad had H locs ls hP hD hS hl
  unfold nm_newa at hk
  split at hk
  · rename_i a S
    split at hk
    · rename_i hb
      split at hk
      case h_2 => exact hk.elim
      rename_i hq9
      have hq9 : Y.length = n0 + d := Nat.eq_of_beq_eq_true hq9
      rw [← hq9] at hk
      obtain ⟨h0, ⟨a1, a2⟩, hk⟩ := hk
      have hk := nm_app_ok _ _ _ hk
      simp only [nm_chk, Bool.and_eq_true] at hb
      obtain ⟨⟨⟨⟨⟨⟨⟨⟨b1, b9⟩, b2⟩, b3⟩, b4⟩, b5⟩, b6⟩, b7⟩, b8⟩ := hb; have b9 := Nat.le_of_ble_eq_true b9
      have b5 := Nat.le_of_ble_eq_true b5
      have b6 := Nat.le_of_ble_eq_true b6
      have b7 := Nat.le_of_ble_eq_true b7
      have b8 := Nat.le_of_ble_eq_true b8
      have hs1 : nm_s1 (.inr (1, a.toNat)) = a.toNat := rfl
      rw [hs1] at b8
      have hoY : nm_ok Y := nm_okb_ok b1
      have hz : h Y.length = fun _ => 0 := funext h0
      have hok : nm_ok (Y ++ [.inr (1, a.toNat)]) := by
        intro q o hq i r hr
        rw [List.length_append, List.length_singleton]
        by_cases hl : q < Y.length
        · rw [List.getElem?_append_left hl] at hq
          have := hoY q o hq i r hr
          omega
        · rw [List.getElem?_append_right (by omega)] at hq
          exact nm_okb_ok b2 (q - Y.length) o hq i r hr
      have hlt : ¬ Int32.ofInt a < 0 := fun q => by have := (nu_lt (a := a) (b := 0) (by omega) (by omega) (by omega) (by omega)).mp q; omega
      refine va_newa (D := E0.1) (atype := .long) (ty := .long) (a0 := (a.toNat, (.inr (.inl (fun j => Int64.ofInt (h Y.length j)))))) X.1 X.2.1 (X.2.2.2.2.1 _ w1) rfl X.2.2.2.2.2.1 hP hD hS X.2.2.2.2.2.2.1 (fun cA => by rw [hz]; rfl) hlt (nu_nat a1 (by omega)) (by show a.toNat * _ ≤ _; simp only [componentBytes]; omega) (by omega) (by omega) hd (fun q cA H1 hK1 hP1 hD1 hS1 => ?_)
      have hcA : cA = E0.2.1.2.1 := by
        have q1 : s.vm.findClass ("[" ++ FieldType.toString .long) = some cA := (hK1.2 3 (cA, .long) rfl).2
        have q2 : s.vm.findClass ("[" ++ FieldType.toString .long) = some E0.2.1.2.1 := (X.2.2.2.2.2.1.2 1 (E0.2.1.2.1, .long) rfl).2
        exact Option.some.inj (q1.symm.trans q2)
      subst hcA
      have hE : ∀ k, k < Y.length ∨ 1000 ≤ k → (nm_ad E0 (fun k => if k = Y.length then q else ad k)).2.2 k = (nm_ad E0 ad).2.2 k := fun k hk => by show (if k = Y.length then q else ad k) = ad k; rw [if_neg (by omega)]
      have hw := nm_w_push (Y := Y) (E := nm_ad E0 ad) (h := h) (a := q) hok hoY
      have hw2 : nm_w (Y ++ [.inr (1, a.toNat)]) (nm_ad E0 (fun k => if k = Y.length then q else ad k)) h = nm_w Y (nm_ad E0 ad) h ++ [(q, .inl (E0.2.1.2.1, (a.toNat, (.inr (.inl (fun j => Int64.ofInt (h Y.length j)))))))] := hw
      rw [← hw2] at hP1 hD1
      have hj := hk (fun k => if k = Y.length then q else ad k) (fun k hk => by show (if k = Y.length then q else ad k) = _; rw [if_neg (by omega)]; exact had k hk) H1 locs ls hP1 hD1 hS1 (by rw [nm_vl_ok hE 0 b3]; exact hl)
      rw [List.length_append, List.length_singleton, nm_sz_app, hs1, show Y.length + 1 - n0 = Y.length - n0 + 1 by omega, show nm_sz Y + a.toNat - z0 = nm_sz Y - z0 + a.toNat by omega] at hj
      rw [List.map_cons, nm_vr_ok hE b4] at hj
      have hv : am_v (nm_ad E0 (fun k => if k = Y.length then q else ad k)) (.inr (.inr Y.length)) = .ref q := by show Value.ref (if Y.length = Y.length then q else ad Y.length) = _; rw [if_pos rfl]
      rw [hv] at hj
      exact hj
    · exact hk.elim
  · exact hk.elim
theorem nm_newa2_ok (X : nm_C cl E0 A p s m args meth c nL cc own Ts) {d mc ms : Nat} (w1 : Cond.arrayClass .boolean ∈ Ts) (hRc : mc ≤ R.cells) (hRs : ms ≤ R.slots) (hd : decode cc pc = .ok (.newarray .boolean, 2)) : nm_sd G (nm_J cl E0 n0 z0 A p l e R s m args below meth c nL Q) Rt (nm_newa d n0 z0 mc ms 2) pc := by
  intro Y L S h hk ad had H locs ls hP hD hS hl
  unfold nm_newa at hk
  split at hk
  · rename_i a S
    split at hk
    · rename_i hb
      split at hk
      case h_2 => exact hk.elim
      rename_i hq9
      have hq9 : Y.length = n0 + d := Nat.eq_of_beq_eq_true hq9
      rw [← hq9] at hk
      obtain ⟨h0, ⟨a1, a2⟩, hk⟩ := hk
      have hk := nm_app_ok _ _ _ hk
      simp only [nm_chk, Bool.and_eq_true] at hb
      obtain ⟨⟨⟨⟨⟨⟨⟨⟨b1, b9⟩, b2⟩, b3⟩, b4⟩, b5⟩, b6⟩, b7⟩, b8⟩ := hb; have b9 := Nat.le_of_ble_eq_true b9
      have b5 := Nat.le_of_ble_eq_true b5
      have b6 := Nat.le_of_ble_eq_true b6
      have b7 := Nat.le_of_ble_eq_true b7
      have b8 := Nat.le_of_ble_eq_true b8
      have hs1 : nm_s1 (.inr (2, a.toNat)) = a.toNat := rfl
      rw [hs1] at b8
      have hoY : nm_ok Y := nm_okb_ok b1
      have hz : h Y.length = fun _ => 0 := funext h0
      have hok : nm_ok (Y ++ [.inr (2, a.toNat)]) := by
        intro q o hq i r hr
        rw [List.length_append, List.length_singleton]
        by_cases hl : q < Y.length
        · rw [List.getElem?_append_left hl] at hq
          have := hoY q o hq i r hr
          omega
        · rw [List.getElem?_append_right (by omega)] at hq
          exact nm_okb_ok b2 (q - Y.length) o hq i r hr
      have hlt : ¬ Int32.ofInt a < 0 := fun q => by have := (nu_lt (a := a) (b := 0) (by omega) (by omega) (by omega) (by omega)).mp q; omega
      refine va_newa (D := E0.1) (atype := .boolean) (ty := .boolean) (a0 := (a.toNat, (.inl (fun j => Int32.ofInt (h Y.length j))))) X.1 X.2.1 (X.2.2.2.2.1 _ w1) rfl X.2.2.2.2.2.1 hP hD hS X.2.2.2.2.2.2.1 (fun cA => by rw [hz]; rfl) hlt (nu_nat a1 (by omega)) (by show a.toNat * _ ≤ _; simp only [componentBytes]; omega) (by omega) (by omega) hd (fun q cA H1 hK1 hP1 hD1 hS1 => ?_)
      have hcA : cA = E0.2.1.2.2 := by
        have q1 : s.vm.findClass ("[" ++ FieldType.toString .boolean) = some cA := (hK1.2 3 (cA, .boolean) rfl).2
        have q2 : s.vm.findClass ("[" ++ FieldType.toString .boolean) = some E0.2.1.2.2 := (X.2.2.2.2.2.1.2 2 (E0.2.1.2.2, .boolean) rfl).2
        exact Option.some.inj (q1.symm.trans q2)
      subst hcA
      have hE : ∀ k, k < Y.length ∨ 1000 ≤ k → (nm_ad E0 (fun k => if k = Y.length then q else ad k)).2.2 k = (nm_ad E0 ad).2.2 k := fun k hk => by show (if k = Y.length then q else ad k) = ad k; rw [if_neg (by omega)]
      have hw := nm_w_push (Y := Y) (E := nm_ad E0 ad) (h := h) (a := q) hok hoY
      have hw2 : nm_w (Y ++ [.inr (2, a.toNat)]) (nm_ad E0 (fun k => if k = Y.length then q else ad k)) h = nm_w Y (nm_ad E0 ad) h ++ [(q, .inl (E0.2.1.2.2, (a.toNat, (.inl (fun j => Int32.ofInt (h Y.length j))))))] := hw
      rw [← hw2] at hP1 hD1
      have hj := hk (fun k => if k = Y.length then q else ad k) (fun k hk => by show (if k = Y.length then q else ad k) = _; rw [if_neg (by omega)]; exact had k hk) H1 locs ls hP1 hD1 hS1 (by rw [nm_vl_ok hE 0 b3]; exact hl)
      rw [List.length_append, List.length_singleton, nm_sz_app, hs1, show Y.length + 1 - n0 = Y.length - n0 + 1 by omega, show nm_sz Y + a.toNat - z0 = nm_sz Y - z0 + a.toNat by omega] at hj
      rw [List.map_cons, nm_vr_ok hE b4] at hj
      have hv : am_v (nm_ad E0 (fun k => if k = Y.length then q else ad k)) (.inr (.inr Y.length)) = .ref q := by show Value.ref (if Y.length = Y.length then q else ad Y.length) = _; rw [if_pos rfl]
      rw [hv] at hj
      exact hj
    · exact hk.elim
  · exact hk.elim
end NH
