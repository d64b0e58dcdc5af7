/-! the reference: places that are far off -/
def am_i2l2 : AD := fun _ J _ pc L S h => match S with
  | .inl a :: S => J (pc + 1) L (.inr (.inl (Int32.ofInt a).toInt) :: S) h
  | _ => False
/-- whichever way it goes -/
def am_lcmp2 (t : Nat) : AD := fun _ J _ pc L S h => match S with
  | .inr (.inl _) :: .inr (.inl _) :: S => J t L S h ∧ J (pc + 4) L S h
  | _ => False
theorem nu_i2l3 (v : Int32) : v.toInt64 = Int64.ofInt v.toInt := by
  apply Int64.toInt.inj
  have h1 : -2147483648 ≤ v.toInt := by simpa using v.le_toInt
  have h2 : v.toInt < 2147483648 := by simpa using v.toInt_lt
  rw [Int32.toInt_toInt64, nu_l (by omega) (by omega)]
theorem nu_i2l2 (a : Int) : (Int32.ofInt a).toInt64 = Int64.ofInt (Int32.ofInt a).toInt := nu_i2l3 _
section HX
variable {Y : List AL} {cl : List vw_C} {E : AE} {A : Nat → Prop} {p : Program} {l : Launch} {e : Env} {R : Room} {s : State} {m : MethodId} {args : Array Value} {below : List Frame} {meth : Method} {c : Code} {nL : Nat} {Q : State → Prop} {cc : ByteArray} {own : String} {Ts : List Cond} {G : AG} {Rt : AR} {pc : Nat} {cs : Nat × Nat}
theorem am_i2l2_ok (X : am_C Y cl E A p s m args meth c nL cc own Ts) (hd : decode cc pc = .ok (.i2l, 1)) : am_sd G (am_Jc Y cl E A p l e R s m args below meth c nL Q cs) Rt am_i2l2 pc := by
  intro L S h hk H locs ls hP hD hS hl
  unfold am_i2l2 at hk
  split at hk
  · exact lv_i2l X.1 X.2.1 hd (nu_i2l2 _) (hk H locs ls hP hD hS hl)
  · exact hk.elim
theorem am_lcmp2_gt_ok (X : am_C Y cl E A p s m args meth c nL cc own Ts) {off : Int} {t : Nat} (hd : decode cc pc = .ok (.lcmp, 1)) (hd2 : decode cc (pc + 1) = .ok (.ifCond .gt off, 3)) (ht : ((pc + 1 : Nat) : Int) + off = (t : Int)) : am_sd G (am_Jc Y cl E A p l e R s m args below meth c nL Q cs) Rt (am_lcmp2 t) pc := by
  intro L S h hk H locs ls hP hD hS hl
  unfold am_lcmp2 at hk
  split at hk
  · refine W.lcmp X.1 X.2.1 hd ?_
    exact lv_if_gt X.1 X.2.1 hd2 ht (fun _ => hk.1 H locs ls hP hD hS hl) (fun _ => hk.2 H locs ls hP hD hS hl)
  · exact hk.elim
end HX
abbrev b2_Mo_farOf : AT := [(0, am_ald 0 1), (1, am_get am_Y 9 1), (4, am_ild 1 1), (5, am_iald am_Y), (6, am_ild 2 1), (7, am_isub), (8, am_i2l2), (9, am_ald 0 1), (10, am_get am_Y 9 1), (13, am_ild 1 1), (14, am_iald am_Y), (15, am_ild 2 1), (16, am_isub), (17, am_i2l2), (18, am_lmul), (19, am_ald 0 1), (20, am_get am_Y 9 2), (23, am_ild 1 1), (24, am_iald am_Y), (25, am_ild 3 1), (26, am_isub), (27, am_i2l2), (28, am_ald 0 1), (29, am_get am_Y 9 2), (32, am_ild 1 1), (33, am_iald am_Y), (34, am_ild 3 1), (35, am_isub), (36, am_i2l2), (37, am_lmul), (38, am_ladd), (39, am_lret)]
set_option maxRecDepth 100000 in
set_option maxHeartbeats 4000000 in
theorem T2_Mo_farOf : am_T am_Y am_cl am_Gw am_mi 97 b2_Mo_farOf := by
  intro E A p l e s m args below meth c Rt X hr
  refine List.forall_mem_cons.mpr ⟨am_aload_n_ok (k := 0) X (by decide +kernel), ?_⟩
  refine List.forall_mem_cons.mpr ⟨am_get_ok (C := R_Mo) (T := F_Mo) (N := 13) (idx := 7) X rfl (by decide) (fun w h => List.mem_cons_of_mem _ (u_Mo w h)) (List.mem_cons_of_mem _ w_Mo_7) (by decide +kernel), ?_⟩
  refine List.forall_mem_cons.mpr ⟨am_iload_n_ok (k := 1) X (by decide +kernel), ?_⟩
  refine List.forall_mem_cons.mpr ⟨am_iald_ok X am_Y0 (by decide +kernel), ?_⟩
  refine List.forall_mem_cons.mpr ⟨am_iload_n_ok (k := 2) X (by decide +kernel), ?_⟩
  refine List.forall_mem_cons.mpr ⟨am_isub_ok X (by decide +kernel), ?_⟩
  refine List.forall_mem_cons.mpr ⟨am_i2l2_ok X (by decide +kernel), ?_⟩
  refine List.forall_mem_cons.mpr ⟨am_aload_n_ok (k := 0) X (by decide +kernel), ?_⟩
  refine List.forall_mem_cons.mpr ⟨am_get_ok (C := R_Mo) (T := F_Mo) (N := 13) (idx := 7) X rfl (by decide) (fun w h => List.mem_cons_of_mem _ (u_Mo w h)) (List.mem_cons_of_mem _ w_Mo_7) (by decide +kernel), ?_⟩
  refine List.forall_mem_cons.mpr ⟨am_iload_n_ok (k := 1) X (by decide +kernel), ?_⟩
  refine List.forall_mem_cons.mpr ⟨am_iald_ok X am_Y0 (by decide +kernel), ?_⟩
  refine List.forall_mem_cons.mpr ⟨am_iload_n_ok (k := 2) X (by decide +kernel), ?_⟩
  refine List.forall_mem_cons.mpr ⟨am_isub_ok X (by decide +kernel), ?_⟩
  refine List.forall_mem_cons.mpr ⟨am_i2l2_ok X (by decide +kernel), ?_⟩
  refine List.forall_mem_cons.mpr ⟨am_lmul_ok X (by decide +kernel), ?_⟩
  refine List.forall_mem_cons.mpr ⟨am_aload_n_ok (k := 0) X (by decide +kernel), ?_⟩
  refine List.forall_mem_cons.mpr ⟨am_get_ok (C := R_Mo) (T := F_Mo) (N := 13) (idx := 13) X rfl (by decide) (fun w h => List.mem_cons_of_mem _ (u_Mo w h)) (List.mem_cons_of_mem _ w_Mo_13) (by decide +kernel), ?_⟩
  refine List.forall_mem_cons.mpr ⟨am_iload_n_ok (k := 1) X (by decide +kernel), ?_⟩
  refine List.forall_mem_cons.mpr ⟨am_iald_ok X am_Y0 (by decide +kernel), ?_⟩
  refine List.forall_mem_cons.mpr ⟨am_iload_n_ok (k := 3) X (by decide +kernel), ?_⟩
  refine List.forall_mem_cons.mpr ⟨am_isub_ok X (by decide +kernel), ?_⟩
  refine List.forall_mem_cons.mpr ⟨am_i2l2_ok X (by decide +kernel), ?_⟩
  refine List.forall_mem_cons.mpr ⟨am_aload_n_ok (k := 0) X (by decide +kernel), ?_⟩
  refine List.forall_mem_cons.mpr ⟨am_get_ok (C := R_Mo) (T := F_Mo) (N := 13) (idx := 13) X rfl (by decide) (fun w h => List.mem_cons_of_mem _ (u_Mo w h)) (List.mem_cons_of_mem _ w_Mo_13) (by decide +kernel), ?_⟩
  refine List.forall_mem_cons.mpr ⟨am_iload_n_ok (k := 1) X (by decide +kernel), ?_⟩
  refine List.forall_mem_cons.mpr ⟨am_iald_ok X am_Y0 (by decide +kernel), ?_⟩
  refine List.forall_mem_cons.mpr ⟨am_iload_n_ok (k := 3) X (by decide +kernel), ?_⟩
  refine List.forall_mem_cons.mpr ⟨am_isub_ok X (by decide +kernel), ?_⟩
  refine List.forall_mem_cons.mpr ⟨am_i2l2_ok X (by decide +kernel), ?_⟩
  refine List.forall_mem_cons.mpr ⟨am_lmul_ok X (by decide +kernel), ?_⟩
  refine List.forall_mem_cons.mpr ⟨am_ladd_ok X (by decide +kernel), ?_⟩
  refine List.forall_mem_cons.mpr ⟨am_lret_ok X hr (by decide +kernel), ?_⟩
  exact fun _ h => absurd h List.not_mem_nil
set_option maxRecDepth 20000 in
set_option maxHeartbeats 2000000 in
theorem s_Mo_farOf2 {E : AE} {l : Launch} {h : AH} {n : Nat} {pt : Nat → ge_P} (P : mp h n pt) {a x y : Int} (a1 : 0 ≤ a) (a2 : a < n) {Q : AR} (hQ : ∀ v, Q (some (.inr (.inl v))) h) : am_g E l 97 [.inr (.inr 24), .inl a, .inl x, .inl y] h Q := by
  have n60 := P.2.1
  refine am_met T2_Mo_farOf (by decide) (Nat.le_of_ble_eq_true rfl) (fun J hJ => ?_)
  repeat (first | refine hJ _ _ _ _ ?_ | refine And.intro (by omega) (fun _ => ?_) | refine And.intro (by omega) ?_ | refine And.intro (fun _ => ?_) (by omega))
  exact hQ _
abbrev b2_Mo_nearest : AT := [(0, am_ald 0 1), (1, am_ild 1 1), (2, am_callS 92 1), (5, am_if 1 15), (8, am_ild 2 1), (9, am_callS 92 1), (12, am_if 0 19), (15, am_ic 1 1), (16, am_goto 20), (19, am_ic 0 1), (20, am_put am_Y 9 0), (23, am_ic (-1) 1), (24, am_ist 3 1), (25, am_ald 0 1), (26, am_get am_Y 9 3), (29, am_ic 1 1), (30, am_isub), (31, am_ist 4 2), (33, am_ild 4 2), (35, am_if 2 74), (38, am_ild 3 1), (39, am_if 2 61), (42, am_ald 0 1), (43, am_ild 4 2), (45, am_ild 1 1), (46, am_ild 2 1), (47, am_callV am_Y 9 97 3), (50, am_ald 0 1), (51, am_ild 3 1), (52, am_ild 1 1), (53, am_ild 2 1), (54, am_callV am_Y 9 97 3), (57, am_lcmp2 66), (61, am_ild 4 2), (63, am_goto 67), (66, am_ild 3 1), (67, am_ist 3 1), (68, am_inc 4 (-1)), (71, am_goto 33), (74, am_ald 0 1), (75, am_get am_Y 9 0), (78, am_if 5 85), (81, am_ic 0 1), (82, am_goto 86), (85, am_ild 3 1), (86, am_ret)]
set_option maxRecDepth 100000 in
set_option maxHeartbeats 4000000 in
theorem T2_Mo_nearest : am_T am_Y am_cl am_Gw am_mi 126 b2_Mo_nearest := by
  intro E A p l e s m args below meth c Rt X hr
  refine List.forall_mem_cons.mpr ⟨am_aload_n_ok (k := 0) X (by decide +kernel), ?_⟩
  refine List.forall_mem_cons.mpr ⟨am_iload_n_ok (k := 1) X (by decide +kernel), ?_⟩
  refine List.forall_mem_cons.mpr ⟨am_callS_ok (idx := 43) X (am_GS m_Mo_43 v_Mo_isFar.1 v_Mo_isFar.2.1 v_Mo_isFar.2.2) ⟨rfl, v_Mo_isFard⟩ ⟨by decide, by decide⟩ (by decide +kernel), ?_⟩
  refine List.forall_mem_cons.mpr ⟨am_if_ne_ok (off := 10) X (by decide +kernel) (by decide), ?_⟩
  refine List.forall_mem_cons.mpr ⟨am_iload_n_ok (k := 2) X (by decide +kernel), ?_⟩
  refine List.forall_mem_cons.mpr ⟨am_callS_ok (idx := 43) X (am_GS m_Mo_43 v_Mo_isFar.1 v_Mo_isFar.2.1 v_Mo_isFar.2.2) ⟨rfl, v_Mo_isFard⟩ ⟨by decide, by decide⟩ (by decide +kernel), ?_⟩
  refine List.forall_mem_cons.mpr ⟨am_if_eq_ok (off := 7) X (by decide +kernel) (by decide), ?_⟩
  refine List.forall_mem_cons.mpr ⟨am_iconst_ok X (by decide +kernel), ?_⟩
  refine List.forall_mem_cons.mpr ⟨am_goto_ok (off := 4) X (by decide +kernel) (by decide), ?_⟩
  refine List.forall_mem_cons.mpr ⟨am_iconst_ok X (by decide +kernel), ?_⟩
  refine List.forall_mem_cons.mpr ⟨am_put_ok (C := R_Mo) (T := F_Mo) (N := 13) (idx := 39) X rfl (by decide) (fun w h => List.mem_cons_of_mem _ (u_Mo w h)) t_Mo_ok n_Mo rfl (by decide +kernel) (List.mem_cons_of_mem _ w_Mo_39) (by decide +kernel), ?_⟩
  refine List.forall_mem_cons.mpr ⟨am_iconst_ok X (by decide +kernel), ?_⟩
  refine List.forall_mem_cons.mpr ⟨am_istore_n_ok (k := 3) X (by decide) (by decide +kernel), ?_⟩
  refine List.forall_mem_cons.mpr ⟨am_aload_n_ok (k := 0) X (by decide +kernel), ?_⟩
  refine List.forall_mem_cons.mpr ⟨am_get_ok (C := R_Mo) (T := F_Mo) (N := 13) (idx := 47) X rfl (by decide) (fun w h => List.mem_cons_of_mem _ (u_Mo w h)) (List.mem_cons_of_mem _ w_Mo_47) (by decide +kernel), ?_⟩
  refine List.forall_mem_cons.mpr ⟨am_iconst_ok X (by decide +kernel), ?_⟩
  refine List.forall_mem_cons.mpr ⟨am_isub_ok X (by decide +kernel), ?_⟩
  refine List.forall_mem_cons.mpr ⟨am_istore_ok X (by decide) (by decide +kernel), ?_⟩
  refine List.forall_mem_cons.mpr ⟨am_iload_ok X (by decide +kernel), ?_⟩
  refine List.forall_mem_cons.mpr ⟨am_if_lt_ok (off := 39) X (by decide +kernel) (by decide), ?_⟩
  refine List.forall_mem_cons.mpr ⟨am_iload_n_ok (k := 3) X (by decide +kernel), ?_⟩
  refine List.forall_mem_cons.mpr ⟨am_if_lt_ok (off := 22) X (by decide +kernel) (by decide), ?_⟩
  refine List.forall_mem_cons.mpr ⟨am_aload_n_ok (k := 0) X (by decide +kernel), ?_⟩
  refine List.forall_mem_cons.mpr ⟨am_iload_ok X (by decide +kernel), ?_⟩
  refine List.forall_mem_cons.mpr ⟨am_iload_n_ok (k := 1) X (by decide +kernel), ?_⟩
  refine List.forall_mem_cons.mpr ⟨am_iload_n_ok (k := 2) X (by decide +kernel), ?_⟩
  refine List.forall_mem_cons.mpr ⟨am_callV_ok (C := R_Mo) (T := F_Mo) (N := 13) (idx := 80) X rfl (am_GV m_Mo_80 v_Mo_farOf.1 v_Mo_farOf.2.1 v_Mo_farOf.2.2.1 v_Mo_farOf.2.2.2) ⟨rfl, v_Mo_farOfd⟩ ⟨by decide, by decide⟩ (Nat.zero_le _) (by decide +kernel), ?_⟩
  refine List.forall_mem_cons.mpr ⟨am_aload_n_ok (k := 0) X (by decide +kernel), ?_⟩
  refine List.forall_mem_cons.mpr ⟨am_iload_n_ok (k := 3) X (by decide +kernel), ?_⟩
  refine List.forall_mem_cons.mpr ⟨am_iload_n_ok (k := 1) X (by decide +kernel), ?_⟩
  refine List.forall_mem_cons.mpr ⟨am_iload_n_ok (k := 2) X (by decide +kernel), ?_⟩
  refine List.forall_mem_cons.mpr ⟨am_callV_ok (C := R_Mo) (T := F_Mo) (N := 13) (idx := 80) X rfl (am_GV m_Mo_80 v_Mo_farOf.1 v_Mo_farOf.2.1 v_Mo_farOf.2.2.1 v_Mo_farOf.2.2.2) ⟨rfl, v_Mo_farOfd⟩ ⟨by decide, by decide⟩ (Nat.zero_le _) (by decide +kernel), ?_⟩
  refine List.forall_mem_cons.mpr ⟨am_lcmp2_gt_ok (off := 8) X (by decide +kernel) (by decide +kernel) (by decide), ?_⟩
  refine List.forall_mem_cons.mpr ⟨am_iload_ok X (by decide +kernel), ?_⟩
  refine List.forall_mem_cons.mpr ⟨am_goto_ok (off := 4) X (by decide +kernel) (by decide), ?_⟩
  refine List.forall_mem_cons.mpr ⟨am_iload_n_ok (k := 3) X (by decide +kernel), ?_⟩
  refine List.forall_mem_cons.mpr ⟨am_istore_n_ok (k := 3) X (by decide) (by decide +kernel), ?_⟩
  refine List.forall_mem_cons.mpr ⟨am_iinc_ok X (by decide) (by decide +kernel), ?_⟩
  refine List.forall_mem_cons.mpr ⟨am_goto_ok (off := -38) X (by decide +kernel) (by decide), ?_⟩
  refine List.forall_mem_cons.mpr ⟨am_aload_n_ok (k := 0) X (by decide +kernel), ?_⟩
  refine List.forall_mem_cons.mpr ⟨am_get_ok (C := R_Mo) (T := F_Mo) (N := 13) (idx := 39) X rfl (by decide) (fun w h => List.mem_cons_of_mem _ (u_Mo w h)) (List.mem_cons_of_mem _ w_Mo_39) (by decide +kernel), ?_⟩
  refine List.forall_mem_cons.mpr ⟨am_if_le_ok (off := 7) X (by decide +kernel) (by decide), ?_⟩
  refine List.forall_mem_cons.mpr ⟨am_iconst_ok X (by decide +kernel), ?_⟩
  refine List.forall_mem_cons.mpr ⟨am_goto_ok (off := 4) X (by decide +kernel) (by decide), ?_⟩
  refine List.forall_mem_cons.mpr ⟨am_iload_n_ok (k := 3) X (by decide +kernel), ?_⟩
  refine List.forall_mem_cons.mpr ⟨am_ret_ok X hr (by decide +kernel), ?_⟩
  exact fun _ h => absurd h List.not_mem_nil
set_option maxRecDepth 20000 in
set_option maxHeartbeats 2000000 in
theorem m_nearest_1 {E : AE} {l : Launch} {n m : Nat} {pt : Nat → ge_P} {rt : Nat → Nat} {h : AH} (R : ir n m pt rt h) {x y : Int} (hx : lo_r x) (hy : lo_r y) (hb : ¬ pd_in x y) : am_g E l 126 [.inr (.inr 24), .inl x, .inl y] h (rq n m pt rt h 1 (some (.inl 0))) := by
  have hQ : ∀ v, rq n m pt rt h 1 v v (am_up h 24 0 1) := fun v => rq_t R
  unfold pd_in at hb
  have P := (ir_t R (t := 1)).1
  have p1 := P.1
  have p2 := P.2.1
  have e0 : am_up h 24 0 1 24 0 = 1 := rfl
  refine am_met T2_Mo_nearest (by decide) (Nat.le_of_ble_eq_true rfl) (fun J hJ => ?_)
  have loop : ∀ c : Nat, ∀ (p found : Int), p + 1 = (c : Int) → c ≤ n → -1 ≤ found → found < n → J 33 [some (.inr (.inr 24)), some (.inl x), some (.inl y), some (.inl found), some (.inl p)] [] (am_up h 24 0 1) := by
    intro c
    induction c with
    | zero =>
      intro p found hp hc f1 f2
      repeat (first | refine hJ _ _ _ _ ?_ | refine And.intro (by omega) (fun _ => ?_) | refine And.intro (by omega) ?_ | refine And.intro (fun _ => ?_) (by omega))
      exact hQ _
    | succ c ih =>
      intro p found hp hc f1 f2
      repeat (first | refine hJ _ _ _ _ ?_ | refine And.intro (by omega) (fun _ => ?_) | refine And.intro (by omega) ?_ | refine And.intro (fun _ => ?_) (by omega))
      refine And.intro (fun hneg => ?_) (fun hneg => ?_)
      · repeat (first | exact ih _ _ (by omega) (by omega) (by omega) (by omega) | refine hJ _ _ _ _ ?_ | refine And.intro (by omega) (fun _ => ?_) | refine And.intro (by omega) ?_ | refine And.intro (fun _ => ?_) (by omega))
      · repeat (first | refine hJ _ _ _ _ ?_ | refine And.intro (by omega) (fun _ => ?_) | refine And.intro (by omega) ?_ | refine And.intro (fun _ => ?_) (by omega))
        refine s_Mo_farOf2 P (by omega) (by omega) (fun v1 => ?_)
        repeat (first | refine hJ _ _ _ _ ?_ | refine And.intro (by omega) (fun _ => ?_) | refine And.intro (by omega) ?_ | refine And.intro (fun _ => ?_) (by omega))
        refine s_Mo_farOf2 P (by omega) (by omega) (fun v2 => ?_)
        repeat (first | refine hJ _ _ _ _ ?_ | refine And.intro (by omega) (fun _ => ?_) | refine And.intro (by omega) ?_ | refine And.intro (fun _ => ?_) (by omega))
        refine And.intro ?_ ?_
        · repeat (first | exact ih _ _ (by omega) (by omega) (by omega) (by omega) | refine hJ _ _ _ _ ?_ | refine And.intro (by omega) (fun _ => ?_) | refine And.intro (by omega) ?_ | refine And.intro (fun _ => ?_) (by omega))
        · repeat (first | exact ih _ _ (by omega) (by omega) (by omega) (by omega) | refine hJ _ _ _ _ ?_ | refine And.intro (by omega) (fun _ => ?_) | refine And.intro (by omega) ?_ | refine And.intro (fun _ => ?_) (by omega))
  repeat (first | refine hJ _ _ _ _ ?_ | refine And.intro (by omega) (fun _ => ?_) | refine And.intro (by omega) ?_ | refine And.intro (fun _ => ?_) (by omega))
  refine s_Mo_isFar hx.1 hx.2 (fun g => ?_) (fun g => ?_)
  · repeat (first | exact loop n _ _ (by omega) (Nat.le_refl _) (by omega) (by omega) | refine hJ _ _ _ _ ?_ | refine And.intro (by omega) (fun _ => ?_) | refine And.intro (by omega) ?_ | refine And.intro (fun _ => ?_) (by omega))
  · repeat (first | refine hJ _ _ _ _ ?_ | refine And.intro (by omega) (fun _ => ?_) | refine And.intro (by omega) ?_ | refine And.intro (fun _ => ?_) (by omega))
    refine s_Mo_isFar hy.1 hy.2 (fun g2 => ?_) (fun g2 => by omega)
    repeat (first | exact loop n _ _ (by omega) (Nat.le_refl _) (by omega) (by omega) | refine hJ _ _ _ _ ?_ | refine And.intro (by omega) (fun _ => ?_) | refine And.intro (by omega) ?_ | refine And.intro (fun _ => ?_) (by omega))
theorem o_nearest {E : AE} {l : Launch} {s : State} (htr : l.stackTraces = false) (h0 : tx_0 s E) {k : Nat} {h : AH} (I : iv k h) : op_nearest E l s (iv (k + 1)) h := by
  obtain ⟨n, m, pt, rt, rg, C, R⟩ := I
  intro x hx y hy
  have n60 := C.1.2.1
  by_cases hb : pd_in x y
  · refine op_hp (P := an_near pt n x y) R (fun v hv => ?_) (fun Q hg => hp_nearest_0 hg) (c_nearest C hb) (fun v hv h1 R1 => m_nearest R1 hb hv)
    rcases hv with ⟨-, rfl⟩ | ⟨-, f, g, rfl⟩
    · decide
    · have := g.1
      omega
  · exact hp_nearest_1 h0 (z_De_nearest h0 htr hx.1 hx.2 hy.1 hy.2 hb (op_t R (ic_mono C (by omega)) (fun _ _ => rfl) (by decide) (by decide) (fun h1 R1 => m_nearest_1 R1 hx hy hb)))
