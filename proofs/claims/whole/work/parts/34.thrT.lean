/-! printed: the roads up to a throw -/
abbrev tm_R1 : Room := { frames := 6, cells := 1, slots := 6, locals := 82 }
abbrev tm_R2 : Room := { frames := 7, cells := 1, slots := 6, locals := 118 }
theorem tw_I : Cond.classLink "PointDesk" 134 tx_I ∈ am_Gw ∧ Cond.initialized tx_I ∈ am_Gw := ⟨am_Gin 646 (by decide +kernel) (by decide +kernel), am_Gin 64 (by decide +kernel) (by decide +kernel)⟩
theorem tw_A : Cond.classLink "PointDesk" 98 tx_A ∈ am_Gw ∧ Cond.initialized tx_A ∈ am_Gw := ⟨am_Gin 713 (by decide +kernel) (by decide +kernel), am_Gin 65 (by decide +kernel) (by decide +kernel)⟩
abbrev ub_De_requirePoint : AT := [(0, am_ald 0 1), (1, am_get am_Y 8 0), (4, am_ild 1 1), (5, am_callV am_Y 4 27 1), (8, am_if 1 21)]
set_option maxRecDepth 100000 in
set_option maxHeartbeats 4000000 in
theorem U_De_requirePoint : tm_T 28 tm_R1 ub_De_requirePoint := by
  intro E A p l e s m args below meth c Rt Q X
  refine List.forall_mem_cons.mpr ⟨am_aload_n_ok (k := 0) X (by decide +kernel), ?_⟩
  refine List.forall_mem_cons.mpr ⟨am_get_ok (C := R_De) (T := F_De) (N := 7) (idx := 12) X rfl (by decide) (fun w h => List.mem_cons_of_mem _ (u_De w h)) (List.mem_cons_of_mem _ w_De_12) (by decide +kernel), ?_⟩
  refine List.forall_mem_cons.mpr ⟨am_iload_n_ok (k := 1) X (by decide +kernel), ?_⟩
  refine List.forall_mem_cons.mpr ⟨am_callV_ok (C := R_Po) (T := F_Po) (N := 4) (idx := 119) X rfl (am_GV m_De_119 v_Po_has.1 v_Po_has.2.1 v_Po_has.2.2.1 v_Po_has.2.2.2) ⟨rfl, v_Po_hasd⟩ ⟨by decide, by decide⟩ (Nat.zero_le _) (by decide +kernel), ?_⟩
  refine List.forall_mem_cons.mpr ⟨am_if_ne_ok (off := 13) X (by decide +kernel) (by decide), ?_⟩
  exact fun _ h => absurd h List.not_mem_nil
abbrev ub_De_at : AT := [(0, am_ald 0 1), (1, am_ild 1 1), (2, am_callV am_Y 8 28 1), (5, am_ild 2 1), (6, am_if 0 24), (9, am_ild 2 1), (10, am_ic 1 1), (11, am_icmp 0 24)]
set_option maxRecDepth 100000 in
set_option maxHeartbeats 4000000 in
theorem U_De_at : tm_T 29 tm_R2 ub_De_at := by
  intro E A p l e s m args below meth c Rt Q X
  refine List.forall_mem_cons.mpr ⟨am_aload_n_ok (k := 0) X (by decide +kernel), ?_⟩
  refine List.forall_mem_cons.mpr ⟨am_iload_n_ok (k := 1) X (by decide +kernel), ?_⟩
  refine List.forall_mem_cons.mpr ⟨am_callV_ok (C := R_De) (T := F_De) (N := 7) (idx := 94) X rfl (am_GV m_De_94 v_De_requirePoint.1 v_De_requirePoint.2.1 v_De_requirePoint.2.2.1 v_De_requirePoint.2.2.2) ⟨rfl, v_De_requirePointd⟩ ⟨by decide, by decide⟩ (Nat.zero_le _) (by decide +kernel), ?_⟩
  refine List.forall_mem_cons.mpr ⟨am_iload_n_ok (k := 2) X (by decide +kernel), ?_⟩
  refine List.forall_mem_cons.mpr ⟨am_if_eq_ok (off := 18) X (by decide +kernel) (by decide), ?_⟩
  refine List.forall_mem_cons.mpr ⟨am_iload_n_ok (k := 2) X (by decide +kernel), ?_⟩
  refine List.forall_mem_cons.mpr ⟨am_iconst_ok X (by decide +kernel), ?_⟩
  refine List.forall_mem_cons.mpr ⟨am_icmp_eq_ok (off := 13) X (by decide +kernel) (by decide), ?_⟩
  exact fun _ h => absurd h List.not_mem_nil
abbrev ub_De_distance : AT := [(0, am_ald 0 1), (1, am_ild 1 1), (2, am_callV am_Y 8 28 1), (5, am_ald 0 1), (6, am_ild 2 1), (7, am_callV am_Y 8 28 1)]
set_option maxRecDepth 100000 in
set_option maxHeartbeats 4000000 in
theorem U_De_distance : tm_T 35 tm_R2 ub_De_distance := by
  intro E A p l e s m args below meth c Rt Q X
  refine List.forall_mem_cons.mpr ⟨am_aload_n_ok (k := 0) X (by decide +kernel), ?_⟩
  refine List.forall_mem_cons.mpr ⟨am_iload_n_ok (k := 1) X (by decide +kernel), ?_⟩
  refine List.forall_mem_cons.mpr ⟨am_callV_ok (C := R_De) (T := F_De) (N := 7) (idx := 94) X rfl (am_GV m_De_94 v_De_requirePoint.1 v_De_requirePoint.2.1 v_De_requirePoint.2.2.1 v_De_requirePoint.2.2.2) ⟨rfl, v_De_requirePointd⟩ ⟨by decide, by decide⟩ (Nat.zero_le _) (by decide +kernel), ?_⟩
  refine List.forall_mem_cons.mpr ⟨am_aload_n_ok (k := 0) X (by decide +kernel), ?_⟩
  refine List.forall_mem_cons.mpr ⟨am_iload_n_ok (k := 2) X (by decide +kernel), ?_⟩
  refine List.forall_mem_cons.mpr ⟨am_callV_ok (C := R_De) (T := F_De) (N := 7) (idx := 94) X rfl (am_GV m_De_94 v_De_requirePoint.1 v_De_requirePoint.2.1 v_De_requirePoint.2.2.1 v_De_requirePoint.2.2.2) ⟨rfl, v_De_requirePointd⟩ ⟨by decide, by decide⟩ (Nat.zero_le _) (by decide +kernel), ?_⟩
  exact fun _ h => absurd h List.not_mem_nil
abbrev ub_De_side : AT := [(0, am_ald 0 1), (1, am_get am_Y 8 1), (4, am_callV am_Y 1 16 0), (7, am_ald 0 1), (8, am_get am_Y 8 1), (11, am_get am_Y 1 3), (14, am_ic 3 1), (15, am_icmp 2 33), (18, am_ild 1 1), (19, am_if 2 33), (22, am_ild 1 1), (23, am_ald 0 1), (24, am_get am_Y 8 1), (27, am_get am_Y 1 3), (30, am_icmp 2 43), (43, am_ild 2 1), (44, am_tsw 0 2 99 [72, 81, 90])]
set_option maxRecDepth 100000 in
set_option maxHeartbeats 4000000 in
theorem U_De_side : tm_T 46 tm_R2 ub_De_side := by
  intro E A p l e s m args below meth c Rt Q X
  refine List.forall_mem_cons.mpr ⟨am_aload_n_ok (k := 0) X (by decide +kernel), ?_⟩
  refine List.forall_mem_cons.mpr ⟨am_get_ok (C := R_De) (T := F_De) (N := 7) (idx := 21) X rfl (by decide) (fun w h => List.mem_cons_of_mem _ (u_De w h)) (List.mem_cons_of_mem _ w_De_21) (by decide +kernel), ?_⟩
  refine List.forall_mem_cons.mpr ⟨am_callV_ok (C := R_Hu) (T := F_Hu) (N := 5) (idx := 80) X rfl (am_GV m_De_80 v_Hu_refresh.1 v_Hu_refresh.2.1 v_Hu_refresh.2.2.1 v_Hu_refresh.2.2.2) ⟨rfl, v_Hu_refreshd⟩ ⟨by decide, by decide⟩ (Nat.zero_le _) (by decide +kernel), ?_⟩
  refine List.forall_mem_cons.mpr ⟨am_aload_n_ok (k := 0) X (by decide +kernel), ?_⟩
  refine List.forall_mem_cons.mpr ⟨am_get_ok (C := R_De) (T := F_De) (N := 7) (idx := 21) X rfl (by decide) (fun w h => List.mem_cons_of_mem _ (u_De w h)) (List.mem_cons_of_mem _ w_De_21) (by decide +kernel), ?_⟩
  refine List.forall_mem_cons.mpr ⟨am_get_ok (C := R_Hu) (T := F_Hu) (N := 5) (idx := 83) X rfl (by decide) (fun w h => List.mem_cons_of_mem _ (u_Hu w h)) (List.mem_cons_of_mem _ w_De_83) (by decide +kernel), ?_⟩
  refine List.forall_mem_cons.mpr ⟨am_iconst_ok X (by decide +kernel), ?_⟩
  refine List.forall_mem_cons.mpr ⟨am_icmp_lt_ok (off := 18) X (by decide +kernel) (by decide), ?_⟩
  refine List.forall_mem_cons.mpr ⟨am_iload_n_ok (k := 1) X (by decide +kernel), ?_⟩
  refine List.forall_mem_cons.mpr ⟨am_if_lt_ok (off := 14) X (by decide +kernel) (by decide), ?_⟩
  refine List.forall_mem_cons.mpr ⟨am_iload_n_ok (k := 1) X (by decide +kernel), ?_⟩
  refine List.forall_mem_cons.mpr ⟨am_aload_n_ok (k := 0) X (by decide +kernel), ?_⟩
  refine List.forall_mem_cons.mpr ⟨am_get_ok (C := R_De) (T := F_De) (N := 7) (idx := 21) X rfl (by decide) (fun w h => List.mem_cons_of_mem _ (u_De w h)) (List.mem_cons_of_mem _ w_De_21) (by decide +kernel), ?_⟩
  refine List.forall_mem_cons.mpr ⟨am_get_ok (C := R_Hu) (T := F_Hu) (N := 5) (idx := 83) X rfl (by decide) (fun w h => List.mem_cons_of_mem _ (u_Hu w h)) (List.mem_cons_of_mem _ w_De_83) (by decide +kernel), ?_⟩
  refine List.forall_mem_cons.mpr ⟨am_icmp_lt_ok (off := 13) X (by decide +kernel) (by decide), ?_⟩
  refine List.forall_mem_cons.mpr ⟨am_iload_n_ok (k := 2) X (by decide +kernel), ?_⟩
  refine List.forall_mem_cons.mpr ⟨am_tsw_ok X (dflt := 55) (offs := #[28, 37, 46]) (len := 28) (by decide +kernel) (by decide) (by decide) (by decide), ?_⟩
  exact fun _ h => absurd h List.not_mem_nil
abbrev ub_De_requireInPlane : AT := [(0, am_ild 0 1), (1, am_ild 1 1), (2, am_callS 0 2), (5, am_if 1 18)]
set_option maxRecDepth 100000 in
set_option maxHeartbeats 4000000 in
theorem U_De_requireInPlane : tm_T 47 tm_R1 ub_De_requireInPlane := by
  intro E A p l e s m args below meth c Rt Q X
  refine List.forall_mem_cons.mpr ⟨am_iload_n_ok (k := 0) X (by decide +kernel), ?_⟩
  refine List.forall_mem_cons.mpr ⟨am_iload_n_ok (k := 1) X (by decide +kernel), ?_⟩
  refine List.forall_mem_cons.mpr ⟨am_callS_ok (idx := 64) X (am_GS m_De_64 v_De_isInPlane.1 v_De_isInPlane.2.1 v_De_isInPlane.2.2) ⟨rfl, v_De_isInPlaned⟩ ⟨by decide, by decide⟩ (by decide +kernel), ?_⟩
  refine List.forall_mem_cons.mpr ⟨am_if_ne_ok (off := 13) X (by decide +kernel) (by decide), ?_⟩
  exact fun _ h => absurd h List.not_mem_nil
abbrev ub_De_where : AT := [(0, am_ild 1 1), (1, am_ild 2 1), (2, am_callS 47 2)]
set_option maxRecDepth 100000 in
set_option maxHeartbeats 4000000 in
theorem U_De_where : tm_T 49 tm_R2 ub_De_where := by
  intro E A p l e s m args below meth c Rt Q X
  refine List.forall_mem_cons.mpr ⟨am_iload_n_ok (k := 1) X (by decide +kernel), ?_⟩
  refine List.forall_mem_cons.mpr ⟨am_iload_n_ok (k := 2) X (by decide +kernel), ?_⟩
  refine List.forall_mem_cons.mpr ⟨am_callS_ok (idx := 151) X (am_GS m_De_151 v_De_requireInPlane.1 v_De_requireInPlane.2.1 v_De_requireInPlane.2.2) ⟨rfl, v_De_requireInPlaned⟩ ⟨by decide, by decide⟩ (by decide +kernel), ?_⟩
  exact fun _ h => absurd h List.not_mem_nil
abbrev ub_De_nearest : AT := [(0, am_ild 1 1), (1, am_ild 2 1), (2, am_callS 47 2)]
set_option maxRecDepth 100000 in
set_option maxHeartbeats 4000000 in
theorem U_De_nearest : tm_T 50 tm_R2 ub_De_nearest := by
  intro E A p l e s m args below meth c Rt Q X
  refine List.forall_mem_cons.mpr ⟨am_iload_n_ok (k := 1) X (by decide +kernel), ?_⟩
  refine List.forall_mem_cons.mpr ⟨am_iload_n_ok (k := 2) X (by decide +kernel), ?_⟩
  refine List.forall_mem_cons.mpr ⟨am_callS_ok (idx := 151) X (am_GS m_De_151 v_De_requireInPlane.1 v_De_requireInPlane.2.1 v_De_requireInPlane.2.2) ⟨rfl, v_De_requireInPlaned⟩ ⟨by decide, by decide⟩ (by decide +kernel), ?_⟩
  exact fun _ h => absurd h List.not_mem_nil
abbrev ub_De_beside : AT := [(0, am_ald 0 1), (1, am_ild 1 1), (2, am_callV am_Y 8 28 1), (5, am_ald 0 1), (6, am_ild 2 1), (7, am_callV am_Y 8 28 1)]
set_option maxRecDepth 100000 in
set_option maxHeartbeats 4000000 in
theorem U_De_beside : tm_T 52 tm_R2 ub_De_beside := by
  intro E A p l e s m args below meth c Rt Q X
  refine List.forall_mem_cons.mpr ⟨am_aload_n_ok (k := 0) X (by decide +kernel), ?_⟩
  refine List.forall_mem_cons.mpr ⟨am_iload_n_ok (k := 1) X (by decide +kernel), ?_⟩
  refine List.forall_mem_cons.mpr ⟨am_callV_ok (C := R_De) (T := F_De) (N := 7) (idx := 94) X rfl (am_GV m_De_94 v_De_requirePoint.1 v_De_requirePoint.2.1 v_De_requirePoint.2.2.1 v_De_requirePoint.2.2.2) ⟨rfl, v_De_requirePointd⟩ ⟨by decide, by decide⟩ (Nat.zero_le _) (by decide +kernel), ?_⟩
  refine List.forall_mem_cons.mpr ⟨am_aload_n_ok (k := 0) X (by decide +kernel), ?_⟩
  refine List.forall_mem_cons.mpr ⟨am_iload_n_ok (k := 2) X (by decide +kernel), ?_⟩
  refine List.forall_mem_cons.mpr ⟨am_callV_ok (C := R_De) (T := F_De) (N := 7) (idx := 94) X rfl (am_GV m_De_94 v_De_requirePoint.1 v_De_requirePoint.2.1 v_De_requirePoint.2.2.1 v_De_requirePoint.2.2.2) ⟨rfl, v_De_requirePointd⟩ ⟨by decide, by decide⟩ (Nat.zero_le _) (by decide +kernel), ?_⟩
  exact fun _ h => absurd h List.not_mem_nil
abbrev ub_De_turn : AT := [(0, am_ild 1 1), (1, am_if 2 20), (4, am_ild 1 1), (5, am_ild 2 1), (6, am_icmp 4 20), (9, am_ild 2 1), (10, am_ald 0 1), (11, am_get am_Y 8 4), (14, am_get am_Y 5 2), (17, am_icmp 2 30)]
set_option maxRecDepth 100000 in
set_option maxHeartbeats 4000000 in
theorem U_De_turn : tm_T 58 tm_R2 ub_De_turn := by
  intro E A p l e s m args below meth c Rt Q X
  refine List.forall_mem_cons.mpr ⟨am_iload_n_ok (k := 1) X (by decide +kernel), ?_⟩
  refine List.forall_mem_cons.mpr ⟨am_if_lt_ok (off := 19) X (by decide +kernel) (by decide), ?_⟩
  refine List.forall_mem_cons.mpr ⟨am_iload_n_ok (k := 1) X (by decide +kernel), ?_⟩
  refine List.forall_mem_cons.mpr ⟨am_iload_n_ok (k := 2) X (by decide +kernel), ?_⟩
  refine List.forall_mem_cons.mpr ⟨am_icmp_gt_ok (off := 14) X (by decide +kernel) (by decide), ?_⟩
  refine List.forall_mem_cons.mpr ⟨am_iload_n_ok (k := 2) X (by decide +kernel), ?_⟩
  refine List.forall_mem_cons.mpr ⟨am_aload_n_ok (k := 0) X (by decide +kernel), ?_⟩
  refine List.forall_mem_cons.mpr ⟨am_get_ok (C := R_De) (T := F_De) (N := 7) (idx := 44) X rfl (by decide) (fun w h => List.mem_cons_of_mem _ (u_De w h)) (List.mem_cons_of_mem _ w_De_44) (by decide +kernel), ?_⟩
  refine List.forall_mem_cons.mpr ⟨am_get_ok (C := R_Ro) (T := F_Ro) (N := 4) (idx := 86) X rfl (by decide) (fun w h => List.mem_cons_of_mem _ (u_Ro w h)) (List.mem_cons_of_mem _ w_De_86) (by decide +kernel), ?_⟩
  refine List.forall_mem_cons.mpr ⟨am_icmp_lt_ok (off := 13) X (by decide +kernel) (by decide), ?_⟩
  exact fun _ h => absurd h List.not_mem_nil
abbrev ub_De_inside : AT := [(0, am_ild 1 1), (1, am_ild 2 1), (2, am_callS 47 2)]
set_option maxRecDepth 100000 in
set_option maxHeartbeats 4000000 in
theorem U_De_inside : tm_T 75 tm_R2 ub_De_inside := by
  intro E A p l e s m args below meth c Rt Q X
  refine List.forall_mem_cons.mpr ⟨am_iload_n_ok (k := 1) X (by decide +kernel), ?_⟩
  refine List.forall_mem_cons.mpr ⟨am_iload_n_ok (k := 2) X (by decide +kernel), ?_⟩
  refine List.forall_mem_cons.mpr ⟨am_callS_ok (idx := 151) X (am_GS m_De_151 v_De_requireInPlane.1 v_De_requireInPlane.2.1 v_De_requireInPlane.2.2) ⟨rfl, v_De_requireInPlaned⟩ ⟨by decide, by decide⟩ (by decide +kernel), ?_⟩
  exact fun _ h => absurd h List.not_mem_nil
/-- the contract of a method that throws, by its road and its end -/
theorem tm_met {E : AE} {l : Launch} {s0 : State} {k : Nat} {R : Room} {tbl : AT} (hT : tm_T k R tbl) {cls : String} {as : List AV} {h : AH} {Qh : AH → Prop} (hpl : plainName (am_mi k).1.cls = true) (haw : am_aw as ≤ (am_mi k).2.2.1) (K : AJ)
    (hK : ∀ (p : Program) (e : Env) (s : State) (m : MethodId) (args : Array Value) (below : List Frame) (meth : Method) (c : Code), tm_C E s0 k p s m args meth c → ∀ pc L S h, K pc L S h → am_J am_Y am_cl E (am_A am_Y E s.heap.size) p l e R s m args below meth c (am_mi k).2.2.1 (tm_MQ below (tm_Q E (am_A am_Y E s.heap.size) cls Qh) args s) pc L S h)
    (hbody : ∀ J : AJ, (∀ pc L S h, am_s tbl (am_g E l) J (fun _ _ => False) pc L S h → J pc L S h) → (∀ pc L S h, K pc L S h → J pc L S h) → J 0 (am_l0 (am_mi k).2.2.1 as) [] h) : tm_g E l s0 k R cls as h Qh := by
  refine tm_open hpl haw (fun p e s m args below meth c C => hbody _ (fun pc L S h hs => ?_) (hK p e s m args below meth c C))
  unfold am_s at hs
  split at hs
  · rename_i f hf
    have hmem : (pc, f) ∈ tbl := by
      obtain ⟨l1, l2, e1, -⟩ := List.lookup_eq_some_iff.mp hf
      rw [e1]; simp
    exact hT E _ p l e s m args below meth c (fun _ _ => False) _ C.1 (pc, f) hmem L S h hs
  · exact hs.elim
